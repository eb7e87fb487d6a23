/-! WHAT A CALL OF THE REFERENCE LEAVES AS IT IS: all but its own numbers and rows; its slot 0 says what it threw -/
def FM (m : Nat) (A : Nat → Nat) (w w' : Wd) : Prop := (wL w' = wL w ∧ wK w' = wK w ∧ wR w' = wR w ∧ wN w' = wN w) ∧ wI w' m 0 = wI w m 0 ∧ ∀ b, b ≠ m → (∀ k, 0 < mKd k → b ≠ A k) → wI w' b = wI w b ∧ wJ w' b = wJ w b
theorem FM.rfl {m : Nat} {A : Nat → Nat} {w : Wd} : FM m A w w := ⟨⟨Eq.refl _, Eq.refl _, Eq.refl _, Eq.refl _⟩, Eq.refl _, fun _ _ _ => ⟨Eq.refl _, Eq.refl _⟩⟩
theorem FM.trans {m : Nat} {A : Nat → Nat} {w1 w2 w3 : Wd} (h1 : FM m A w1 w2) (h2 : FM m A w2 w3) : FM m A w1 w3 :=
  ⟨⟨h2.1.1.trans h1.1.1, h2.1.2.1.trans h1.1.2.1, h2.1.2.2.1.trans h1.1.2.2.1, h2.1.2.2.2.trans h1.1.2.2.2⟩, h2.2.1.trans h1.2.1, fun b hb hk => ⟨(h2.2.2 b hb hk).1.trans (h1.2.2 b hb hk).1, (h2.2.2 b hb hk).2.trans (h1.2.2 b hb hk).2⟩⟩
theorem FM.ar {m : Nat} {A : Nat → Nat} {w w' : Wd} (h : FM m A w w') {k : Nat} (hk : 0 < mKd k) (hn : A k ≠ m) (i : Nat) (v : Int32) : FM m A w (sI w' (A k) i v) := by
  refine ⟨h.1, ?_, fun b hb hj => ⟨?_, (h.2.2 b hb hj).2⟩⟩
  · rw [pI_I, if_neg (fun z => hn z.1.symm)]; exact h.2.1
  · rw [← (h.2.2 b hb hj).1]; funext j; rw [pI_I, if_neg (fun z => hj k hk z.1)]
theorem FM.arJ {m : Nat} {A : Nat → Nat} {w w' : Wd} (h : FM m A w w') {k : Nat} (hk : 0 < mKd k) (i : Nat) (v : Int64) : FM m A w (sJ w' (A k) i v) := by
  refine ⟨h.1, h.2.1, fun b hb hj => ⟨(h.2.2 b hb hj).1, ?_⟩⟩
  rw [← (h.2.2 b hb hj).2]; funext j; rw [pJ_J, if_neg (fun z => hj k hk z.1)]
theorem FM.sc {m : Nat} {A : Nat → Nat} {w w' : Wd} (h : FM m A w w') {s : Nat} (hs : s ≠ 0) (v : Int32) : FM m A w (sI w' m s v) := by
  refine ⟨h.1, ?_, fun b hb hj => ⟨?_, (h.2.2 b hb hj).2⟩⟩
  · rw [pI_I, if_neg (fun z => hs z.2.symm)]; exact h.2.1
  · rw [← (h.2.2 b hb hj).1]; funext j; rw [pI_I, if_neg (fun z => hb z.1)]
/-- one of the reference's rows, at a place in it -/
theorem ldA {w : Wd} {m : Nat} {A : Nat → Nat} (h : isM w m A) (k : Nat) {kd n j : Nat} {i : Int32} {P : Nat → Prop} (hk : mKd k = kd) (h0 : 0 < kd) (hn : mLn k = n) (hi : i = nI j) (hj : j < n) (hP : P (A k)) : ∃ a : Nat, wR w m k = some a ∧ (bw_is w a kd ∧ (vp_in i (wN w a) ∧ P a)) := by
  obtain ⟨h1, h2, h3⟩ := h.2.1 k (by rw [hk]; exact h0)
  have hn6 : n ≤ 6000 := by
    have : ∀ k, k < 32 → mLn k ≤ 6000 := by decide
    rw [← hn]
    exact this k (mKd_hi (by rw [hk]; exact h0)).2.2
  refine ⟨A k, h1, by rw [← hk]; exact h2, ?_, hP⟩
  rw [hi, h3, hn]
  exact vp_in_nI hj (by omega)
theorem vA {w : Wd} {m : Nat} {A : Nat → Nat} (h : isM w m A) (k : Nat) {n j : Nat} {i : Int32} (hk : 0 < mKd k) (hn : mLn k = n) (hi : i = nI j) (hj : j < n) : vp_in i (wN w (A k)) := by
  have hn6 : n ≤ 6000 := by
    have : ∀ k, k < 32 → mLn k ≤ 6000 := by decide
    rw [← hn]
    exact this k (mKd_hi hk).2.2
  rw [hi, (h.2.1 k hk).2.2, hn]
  exact vp_in_nI hj (by omega)
theorem nI_mul (a b : Nat) : nI a * nI b = nI (a * b) := (Int32.ofNat_mul a b).symm
theorem i60 (b j : Nat) : (60 : Int32) * nI b + nI j = nI (60 * b + j) := by
  rw [show (60 : Int32) = nI 60 from rfl, nI_mul, nI_add]
theorem i60' (b : Nat) : (60 : Int32) * nI b = nI (60 * b) := by
  rw [show (60 : Int32) = nI 60 from rfl, nI_mul]
theorem i2 (b j : Nat) : (2 : Int32) * nI b + nI j = nI (2 * b + j) := by
  rw [show (2 : Int32) = nI 2 from rfl, nI_mul, nI_add]
theorem i2' (b : Nat) : (2 : Int32) * nI b = nI (2 * b) := by
  rw [show (2 : Int32) = nI 2 from rfl, nI_mul]
section MO
variable {e0 mi m : Nat} {A : Nat → Nat} {S : St} {w : Wd}
theorem M_rear {i : Nat} {Q : Int32 → Wd → Prop} (h : RM S w m A) (hi : i < 61) (hQ : Q (rearS S i) w) : wp_Mo_rear e0 mi m (nI i) w Q := by
  unfold wp_Mo_rear
  have c : (nI i).toNatClampNeg = i := nI_clamp (by omega)
  rw [c]
  refine ⟨h.1.1, ldA h.1 15 (n := 61) rfl (by decide) rfl rfl hi (ldA h.1 16 (n := 61) rfl (by decide) rfl rfl hi ?_)⟩
  rw [h.2.2.2.1 15 (by unfold isInt; decide) i hi, h.2.2.2.1 16 (by unfold isInt; decide) i hi]
  exact hQ
/-- what must hold of the items of the rows -/
def okR (S : St) : Prop := ∀ b, b < 8 → (rr S b).length ≤ 60 ∧ ∀ i ∈ rr S b, 1 ≤ i ∧ i ≤ 60
theorem M_missing {b : Nat} {Q : Int32 → Wd → Prop} (h : RM S w m A) (hb : b < 8) (hr : okR S) (hQ : Q (missS S b) w) : wp_Mo_missing e0 mi m (nI b) w Q := by
  have c : (nI b).toNatClampNeg = b := nI_clamp (by omega)
  unfold wp_Mo_missing wb_Mo_missing_27
  obtain ⟨s1, s2⟩ := h.2.2.2.2.1 b hb
  refine ⟨h.1.1, ldA h.1 10 (n := 8) rfl (by decide) rfl rfl hb ?_⟩
  rw [c, s1]
  unfold missS at hQ
  refine ⟨fun hz => ?_, fun hz => ?_⟩
  · have hl : 0 < (rr S b).length := by
      rcases Nat.eq_zero_or_pos (rr S b).length with z | z
      · rw [z] at hz; exact absurd rfl hz
      · exact z
    have hlen := (hr b hb).1
    have hg : (rr S b)[(rr S b).length - 1]? = (rr S b).getLast? := List.getLast?_eq_getElem?.symm
    obtain ⟨i, hi⟩ : ∃ i, (rr S b).getLast? = some i := by
      cases hh : (rr S b).getLast? with
      | none => rw [List.getLast?_eq_none_iff] at hh; rw [hh] at hl; simp at hl
      | some i => exact ⟨i, rfl⟩
    rw [hi] at hQ hg
    have hmem : i ∈ rr S b := List.mem_of_getElem? hg
    have hi61 : i < 61 := by have := ((hr b hb).2 i hmem).2; omega
    have e1 : ((60 : Int32) * nI b + nI (rr S b).length) - 1 = nI (60 * b + ((rr S b).length - 1)) := by
      rw [i60, show 60 * b + (rr S b).length = (60 * b + ((rr S b).length - 1)) + 1 by omega, nI_pred]
    unfold wp_Mo_last
    refine ⟨h.1.1, ldA h.1 10 (n := 8) rfl (by decide) rfl rfl hb ?_⟩
    rw [c, s1]
    refine ldA h.1 11 (n := 480) rfl (by decide) rfl e1 (by omega) ?_
    rw [e1, nI_clamp (by omega), s2 _ i hg]
    refine ⟨h.1.1, M_rear h hi61 ?_⟩
    rw [h.2.1.2.1]
    exact hQ
  · have hl : (rr S b).length = 0 := by
      have hlen := (hr b hb).1
      exact (nI_eq (b := 0) (by omega) (by omega)).mp hz
    rw [List.length_eq_zero_iff.mp hl] at hQ
    exact hQ
theorem M_tell {kd i o : Nat} {Q : Wd → Prop} (h : RM S w m A) (he : (eds S).length < 6000) (hQ : ∀ w', RM (tellS S (mm S 1 0, kd, i, o)) w' m A → FM m A w w' → Q w') : wp_Mo_tell e0 mi m (nI kd) (nI i) (nI o) w Q := by
  unfold wp_Mo_tell
  have l := h.2.2.1.2.2.2.2.1
  refine ⟨h.1.1, ldA h.1 28 (n := 6000) rfl (by decide) rfl l he ?_⟩
  rw [l, nI_clamp (by omega), h.2.1.1, pI_J, l, nI_1]
  exact hQ _ (RM_edge h (mm S 1 0, kd, i, o)) ((FM.rfl.arJ (by decide) _ _).sc (by decide) _)
theorem M_come {b i : Nat} {Q : Wd → Prop} (h : RM S w m A) (hb : b < 8) (hi : i < 61) (hl : (rr S b).length < 60) (hr : okR S) (hQ : ∀ w', RM (comeS S i b) w' m A → FM m A w w' → Q w') : wp_Mo_come e0 mi m (nI i) (nI b) w Q := by
  have c : (nI b).toNatClampNeg = b := nI_clamp (by omega)
  have ci : (nI i).toNatClampNeg = i := nI_clamp (by omega)
  have nb0 : vp_nar .boolean (0 : Int32) = 0 := by rfl
  unfold wp_Mo_come
  rw [ci, c, nb0]
  refine ⟨h.1.1, ldA h.1 14 (n := 61) rfl (by decide) rfl rfl hi ?_⟩
  have h1 := RM_um h (k := 14) (i := i) (by unfold isInt; decide) (nI b)
  have f1 := (FM.rfl (m := m) (A := A) (w := w)).ar (k := 14) (by decide) (isM_ne h.1 (by decide)) i (nI b)
  generalize sI w (A 14) i (nI b) = u1 at h1 f1 ⊢
  refine ldA h1.1 15 (n := 61) rfl (by decide) rfl rfl hi ?_
  have h2 := RM_um h1 (k := 15) (i := i) (by unfold isInt; decide) 0
  have f2 := f1.ar (k := 15) (by decide) (isM_ne h.1 (by decide)) i 0
  generalize sI u1 (A 15) i 0 = u2 at h2 f2 ⊢
  refine ldA h2.1 17 (n := 61) rfl (by decide) rfl rfl hi ?_
  have h3 := RM_um h2 (k := 17) (i := i) (by unfold isInt; decide) 0
  have f3 := f2.ar (k := 17) (by decide) (isM_ne h.1 (by decide)) i 0
  generalize sI u2 (A 17) i 0 = u3 at h3 f3 ⊢
  refine ldA h3.1 18 (n := 61) rfl (by decide) rfl rfl hi ?_
  have h4 := RM_um h3 (k := 18) (i := i) (by unfold isInt; decide) 0
  have f4 := f3.ar (k := 18) (by decide) (isM_ne h.1 (by decide)) i 0
  generalize sI u3 (A 18) i 0 = u4 at h4 f4 ⊢
  refine ldA h4.1 19 (n := 61) rfl (by decide) rfl rfl hi ?_
  have h5 := RM_um h4 (k := 19) (i := i) (by unfold isInt; decide) 0
  have f5 := f4.ar (k := 19) (by decide) (isM_ne h.1 (by decide)) i 0
  generalize sI u4 (A 19) i 0 = u5 at h5 f5 ⊢
  have hrr : rr (um (um (um (um (um S 14 i (nI b)) 15 i 0) 17 i 0) 18 i 0) 19 i 0) = rr S := by rw [rr_um, rr_um, rr_um, rr_um, rr_um]
  have s1 : wI u5 (A 10) b = nI (rr S b).length := by rw [← hrr]; exact (h5.2.2.2.2.1 b hb).1
  refine ldA h5.1 10 (n := 8) rfl (by decide) rfl rfl hb ?_
  rw [s1]
  refine ldA h5.1 11 (n := 480) rfl (by decide) rfl (i60 b _) (by omega) ?_
  rw [i60, nI_clamp (by omega)]
  have h6 := RM_push h5 hb (i := i) (by rw [hrr]; exact hl) (fun c hc => by rw [hrr]; exact (hr c hc).1)
  rw [hrr] at h6
  have e6 : wI (sI u5 (A 11) (60 * b + (rr S b).length) (nI i)) (A 10) b = nI (rr S b).length := by
    rw [pI_I, if_neg (fun z => isM_nn h.1 (j := 10) (k := 11) (by decide) (by decide) (by decide) z.1), s1]
  refine ldA (isM_st h5.1 _ _ _) 10 (n := 8) rfl (by decide) rfl rfl hb ⟨vA (isM_st h5.1 _ _ _) 10 (n := 8) (by decide) rfl rfl hb, ?_⟩
  rw [e6, nI_1]
  exact hQ _ h6 ((f5.ar (by decide) (isM_ne h.1 (by decide)) _ _).ar (by decide) (isM_ne h.1 (by decide)) _ _)
/-- where an item stands in its row -/
theorem M_indexOf_l {b p i : Nat} {Q : Int32 → Wd → Prop} (h : RM S w m A) (hb : b < 8) (hi : i < 61) (hbe : mm S 14 i = nI b) (hp : (rr S b)[p]? = some i) (hn : ∀ j, j < p → (rr S b)[j]? ≠ some i) (hr : okR S) (hQ : Q (nI p) w) : ∀ (n j : Nat), j + n = p → wb_Mo_indexOf_2 e0 mi Q (n + 1) m (nI i) (nI j) w := by
  have ci : (nI i).toNatClampNeg = i := nI_clamp (by omega)
  have hlp := (List.getElem?_eq_some_iff.mp hp).1
  have hlen := (hr b hb).1
  have hv := h.2.2.2.1 14 (by unfold isInt; decide) i hi
  rw [hbe] at hv
  intro n
  induction n with
  | zero =>
    intro j hj
    have hjp : j = p := by omega
    subst hjp
    unfold wb_Mo_indexOf_2
    refine ⟨h.1.1, ldA h.1 14 (n := 61) rfl (by decide) rfl rfl hi ?_⟩
    rw [ci, hv]
    refine ldA h.1 11 (n := 480) rfl (by decide) rfl (i60 b j) (by omega) ?_
    rw [i60, nI_clamp (by omega), (h.2.2.2.2.1 b hb).2 j i hp]
    exact ⟨fun _ => hQ, fun z => absurd rfl z⟩
  | succ n ih =>
    intro j hj
    unfold wb_Mo_indexOf_2
    refine ⟨h.1.1, ldA h.1 14 (n := 61) rfl (by decide) rfl rfl hi ?_⟩
    rw [ci, hv]
    refine ldA h.1 11 (n := 480) rfl (by decide) rfl (i60 b j) (by omega) ?_
    obtain ⟨x, hx⟩ : ∃ x, (rr S b)[j]? = some x := ⟨(rr S b)[j]'(by omega), List.getElem?_eq_getElem (by omega)⟩
    have hxm := ((hr b hb).2 x (List.mem_of_getElem? hx)).2
    rw [i60, nI_clamp (by omega), (h.2.2.2.2.1 b hb).2 j x hx]
    refine ⟨fun z => ?_, fun _ i9 e9 => ?_⟩
    · have hxi : x = i := (nI_eq (by omega) (by omega)).mp z
      exact absurd (hxi ▸ hx) (hn j (by omega))
    · rw [e9, nI_1]
      exact ih (j + 1) (by omega)
theorem M_indexOf {b p i : Nat} {Q : Int32 → Wd → Prop} (h : RM S w m A) (hb : b < 8) (hi : i < 61) (hbe : mm S 14 i = nI b) (hp : (rr S b)[p]? = some i) (hn : ∀ j, j < p → (rr S b)[j]? ≠ some i) (hr : okR S) (hQ : Q (nI p) w) : wp_Mo_indexOf e0 mi m (nI i) w Q := by
  unfold wp_Mo_indexOf
  exact ⟨p + 1, M_indexOf_l h hb hi hbe hp hn hr hQ p 0 (by omega)⟩
theorem M_atEnd {b : Nat} {Q : Int32 → Wd → Prop} (h : RM S w m A) (hb : b < 8) (hr : okR S) (hQ : Q (nI ((atEndS S b).getD 0)) w) : wp_Mo_atEnd e0 mi m (nI b) w Q := by
  have c : (nI b).toNatClampNeg = b := nI_clamp (by omega)
  obtain ⟨s1, s2⟩ := h.2.2.2.2.1 b hb
  unfold wp_Mo_atEnd wb_Mo_atEnd_41
  unfold atEndS at hQ
  refine ⟨h.1.1, ldA h.1 10 (n := 8) rfl (by decide) rfl rfl hb ?_⟩
  rw [c, s1]
  cases hl : rr S b with
  | nil =>
    rw [hl] at hQ
    exact ⟨fun z => absurd rfl z, fun _ => hQ⟩
  | cons i t =>
    rw [hl] at hQ
    have hi1 := (hr b hb).2 i (by rw [hl]; exact List.mem_cons_self)
    have hlen := (hr b hb).1
    rw [hl] at hlen
    have h0 : (rr S b)[0]? = some i := by rw [hl]; rfl
    have hs := s2 0 i h0
    refine ⟨fun _ => ?_, fun z => absurd z (nI_ne0 (by simp) (by omega))⟩
    refine ldA h.1 11 (n := 480) rfl (by decide) rfl (i60' b) (by omega) (fun i9 e9 => ?_)
    rw [i60', nI_clamp (by omega), show 60 * b = 60 * b + 0 from rfl, hs] at e9
    subst e9
    refine ldA h.1 15 (n := 61) rfl (by decide) rfl rfl (by omega) (ldA h.1 4 (n := 8) rfl (by decide) rfl rfl hb ?_)
    rw [nI_clamp (by omega), h.2.2.2.1 15 (by unfold isInt; decide) i (show i < 61 by omega), h.2.2.2.1 4 (by unfold isInt; decide) b hb]
    refine ⟨fun z => ?_, fun z => ?_⟩
    · simp only [if_neg z] at hQ
      exact hQ
    · simp only [if_pos z] at hQ
      exact hQ
/-- the way of an item of the belt b, as the reference tells it: 0, 1, or -1 -/
def gbS (S : St) (b i : Nat) : Int32 := if mm S 7 (2 * b + (mm S 17 i).toNatClampNeg) = -1 then (if mm S 7 (2 * b) = -1 then -1 else 0) else mm S 17 i
theorem M_goesBy {b i : Nat} {Q : Int32 → Wd → Prop} (h : RM S w m A) (hb : b < 8) (hi : i < 61) (hbe : mm S 14 i = nI b) (hw : mm S 17 i = 0 ∨ mm S 17 i = 1) (hQ : Q (gbS S b i) w) : wp_Mo_goesBy e0 mi m (nI i) w Q := by
  have ci : (nI i).toNatClampNeg = i := nI_clamp (by omega)
  have hv := h.2.2.2.1 14 (by unfold isInt; decide) i hi
  rw [hbe] at hv
  have hv2 := h.2.2.2.1 17 (by unfold isInt; decide) i hi
  obtain ⟨y, hy, hy2⟩ : ∃ y, mm S 17 i = nI y ∧ y < 2 := by
    rcases hw with z | z
    · exact ⟨0, z, by decide⟩
    · exact ⟨1, z, by decide⟩
  have cy : (nI y).toNatClampNeg = y := nI_clamp (by omega)
  unfold gbS at hQ
  rw [hy, cy] at hQ
  unfold wp_Mo_goesBy wb_Mo_goesBy_53
  refine ⟨h.1.1, ldA h.1 14 (n := 61) rfl (by decide) rfl rfl hi (ldA h.1 17 (n := 61) rfl (by decide) rfl rfl hi ?_)⟩
  rw [ci, hv, hv2, hy]
  refine ldA h.1 7 (n := 16) rfl (by decide) rfl (i2 b y) (by omega) ?_
  rw [i2, i2', nI_clamp (by omega), nI_clamp (by omega), h.2.2.2.1 7 (by unfold isInt; decide) _ (show 2 * b + y < 16 by omega), h.2.2.2.1 7 (by unfold isInt; decide) _ (show 2 * b < 16 by omega)]
  refine ⟨fun z => ⟨vA h.1 14 (n := 61) (by decide) rfl rfl hi, vA h.1 7 (n := 16) (by decide) rfl rfl (by omega), fun z2 => ?_, fun z2 => ?_⟩, fun z => ⟨vA h.1 17 (n := 61) (by decide) rfl rfl hi, ?_⟩⟩
  · rw [if_pos z, if_pos z2] at hQ; exact hQ
  · rw [if_pos z, if_neg z2] at hQ; exact hQ
  · rw [if_neg z] at hQ; exact hQ
end MO
