/-! LISTS, WITH THEIR ROOM: n is how long the list ever was -/
theorem nI_sr {n : Nat} (h : n < 2 ^ 31) : nI n >>> ((1 : Int32) &&& 31) = nI (n / 2) := by
  apply Int32.toInt_inj.mp
  rw [nI_toInt (by omega), show ((1 : Int32) &&& 31) = 1 by decide, ← Int32.toInt_toBitVec, Int32.toBitVec_shiftRight, show ((1 : Int32).toBitVec.smod 32) = 1#32 by decide, BitVec.toInt_sshiftRight', Int32.toInt_toBitVec, nI_toInt h, Int.shiftRight_eq_div_pow]
  rw [show (1#32).toNat = 1 by decide]
  omega
def cap : Nat → Nat
  | 0 => 0
  | n + 1 => if n < cap n then cap n else (if n = 0 then 10 else n + n / 2)
theorem cap_facts : ∀ n, n ≤ cap n ∧ cap n ≤ 10 + 2 * n ∧ (0 < n → 10 ≤ cap n)
  | 0 => by simp [cap]
  | n + 1 => by
    obtain ⟨h1, h2, h3⟩ := cap_facts n
    unfold cap
    by_cases h : n < cap n
    · rw [if_pos h]
      refine ⟨h, by omega, fun _ => ?_⟩
      rcases Nat.eq_zero_or_pos n with z | z
      · subst z; simp [cap] at h
      · exact h3 z
    · rw [if_neg h]
      rcases Nat.eq_zero_or_pos n with z | z
      · subst z; simp
      · rw [if_neg (by omega)]
        have := h3 z
        omega
theorem cap_le (n : Nat) : n ≤ cap n := (cap_facts n).1
theorem cap_same {l n : Nat} (h : l < cap n) (hl : l ≤ n) : cap (max n (l + 1)) = cap n := by
  rcases Nat.lt_or_eq_of_le hl with z | z
  · rw [Nat.max_eq_left (by omega)]
  · subst z
    rw [Nat.max_eq_right (by omega)]
    conv => lhs; unfold cap
    rw [if_pos h]
theorem cap_grow {l n : Nat} (h : l = cap n) (hl : l ≤ n) : l = n ∧ cap (max n (l + 1)) = if n = 0 then 10 else n + n / 2 := by
  have h1 := cap_le n
  have e : l = n := by omega
  refine ⟨e, ?_⟩
  subst e
  rw [Nat.max_eq_right (by omega)]
  conv => lhs; unfold cap
  rw [if_neg (by omega)]
def gC (l n : Nat) : Nat := if l = cap n then 1 else 0
def gS (l n : Nat) : Nat := if l = cap n then cap (max n (l + 1)) else 0
/-- the list at a holds xs, its row of places is d, it was never longer than n -/
def isK (e0 : Nat) (w : Wd) (a d n : Nat) (xs : List Nat) : Prop :=
  bw_is w a 7 ∧ wI w a 2 = nI xs.length ∧ xs.length ≤ n ∧ n ≤ 10000 ∧ (∀ x ∈ xs, ∃ cn, bw_is w x cn ∧ cn < 6 ∧ cn ≠ 5) ∧
  (n = 0 → wR w a 1 = some e0) ∧ (0 < n → wR w a 1 = some d ∧ bw_is w d 100 ∧ wN w d = cap n ∧ ∀ i, i < xs.length → wR w d i = xs[i]?)
theorem isK_L {e0 : Nat} {w : Wd} {a d n : Nat} {xs : List Nat} (h : isK e0 w a d n xs) : isL e0 w a xs := by
  obtain ⟨h1, h2, h3, h4, h5, h6, h7⟩ := h
  refine ⟨h1, h2, h5, ?_⟩
  rcases Nat.eq_zero_or_pos n with z | z
  · exact Or.inl ⟨List.length_eq_zero_iff.mp (by omega), h6 z⟩
  · obtain ⟨g1, g2, g3, g4⟩ := h7 z
    have := cap_facts n
    exact Or.inr ⟨d, g1, g2, by rw [g3]; omega, by rw [g3]; exact this.2.2 z, by rw [g3]; omega, g4⟩
/-- a world in which the list's own cells and its elements are as before -/
theorem isK_kp {e0 : Nat} {w w' : Wd} {a d n : Nat} {xs : List Nat} {X : Nat → Prop} (h : isK e0 w a d n xs) (hk : Kp X w w') (ha : ¬ X a) (hd : 0 < n → ¬ X d) : isK e0 w' a d n xs := by
  obtain ⟨h1, h2, h3, h4, h5, h6, h7⟩ := h
  refine ⟨hk.is h1, by rw [hk.I h1.1 ha]; exact h2, h3, h4, fun x hx => ?_, fun z => by rw [hk.R h1.1 ha]; exact h6 z, fun z => ?_⟩
  · obtain ⟨cn, k1, k2⟩ := h5 x hx
    exact ⟨cn, hk.is k1, k2⟩
  · obtain ⟨g1, g2, g3, g4⟩ := h7 z
    exact ⟨by rw [hk.R h1.1 ha]; exact g1, hk.is g2, by rw [hk.N g2.1]; exact g3, fun i hi => by rw [hk.R g2.1 (hd z)]; exact g4 i hi⟩
theorem isK_size {e0 mi a d n : Nat} {w : Wd} {xs : List Nat} {Q : Int32 → Wd → Prop} (hl : isK e0 w a d n xs) (h : Q (nI xs.length) w) : wp_Al_size e0 mi a w Q := isL_size (isK_L hl) h
theorem isK_get {e0 mi a d n i x : Nat} {w : Wd} {xs : List Nat} {Q : Option Nat → Wd → Prop} (hl : isK e0 w a d n xs) (hx : xs[i]? = some x) (h : Q (some x) w) : wp_Al_get e0 mi a (nI i) w Q := isL_get (isK_L hl) hx h
/-- what add leaves behind -/
theorem isK_added {e0 a x d d' n N : Nat} {w w1 : Wd} {xs : List Nat} (hl : isK e0 w a d n xs) (hx : ∃ cn, bw_is w x cn ∧ cn < 6 ∧ cn ≠ 5) (hN : N = max n (xs.length + 1)) (hN4 : N ≤ 10000)
    (ha : bw_is w1 a 7) (hR : wR w1 a 1 = some d') (hd' : bw_is w1 d' 100) (hcap : wN w1 d' = cap N) (hold : ∀ i, i < xs.length → wR w1 d' i = xs[i]?)
    (hk : ∀ b, b ∈ wL w → b ∈ wL w1 ∧ wK w1 b = wK w b) : isK e0 (sI (sR w1 d' xs.length (some x)) a 2 (nI (xs.length + 1))) a d' N (xs ++ [x]) := by
  obtain ⟨h1, h2, h3, h4, h5, h6, h7⟩ := hl
  have hda : a ≠ d' := is_ne ha hd' (by decide)
  refine ⟨ha, ?_, by simp; omega, hN4, fun y hy => ?_, fun z => (by omega), fun _ => ⟨?_, hd', hcap, fun i hi => ?_⟩⟩
  · rw [pI_I, if_pos ⟨rfl, rfl⟩]; simp
  · have : ∃ cn, bw_is w y cn ∧ cn < 6 ∧ cn ≠ 5 := by
      rcases List.mem_append.mp hy with z | z
      · exact h5 y z
      · rw [List.mem_singleton.mp z]; exact hx
    obtain ⟨cn, k1, k2⟩ := this
    exact ⟨cn, ⟨(hk y k1.1).1, (hk y k1.1).2.trans k1.2⟩, k2⟩
  · rw [pR_I, pR_R, if_neg (fun z => hda z.1)]; exact hR
  · rw [pR_I, pR_R]
    by_cases hi2 : i = xs.length
    · rw [if_pos ⟨rfl, hi2⟩, hi2]; simp
    · have hi3 : i < xs.length := by simp at hi; omega
      rw [if_neg (fun z => hi2 z.2), hold i hi3, List.getElem?_append_left hi3]
/-- add -/
theorem isK_add {e0 mi a d n x nc ns : Nat} {w : Wd} {xs : List Nat} {Q : Int32 → Wd → Prop} (hl : isK e0 w a d n xs) (hx : ∃ cn, bw_is w x cn ∧ cn < 6 ∧ cn ≠ 5) (hn : xs.length < 5000) (hnc : gC xs.length n ≤ nc) (hns : gS xs.length n ≤ ns)
    (h : ∀ w' d', isK e0 w' a d' (max n (xs.length + 1)) (xs ++ [x]) → (d' = d ∧ 0 < n ∨ d' ∉ wL w) → Kp (fun b => b = a ∨ (0 < n ∧ b = d)) w w' → Q 1 w') : wp_Al_add e0 mi a (some x) w nc ns Q := by
  have hlK := hl
  have hL := isK_L hl
  obtain ⟨h1, h2, h3, h4, h5, h6, h7⟩ := hl
  have hN4 : max n (xs.length + 1) ≤ 10000 := by omega
  have i0 : ∀ v, wI (sI w a 0 v) a 2 = nI xs.length := fun v => by rw [pI_I, if_neg (fun z => by simp at z), h2]
  by_cases hg : xs.length = cap n
  · obtain ⟨en, hcap⟩ := cap_grow hg h3
    unfold gC at hnc; rw [if_pos hg] at hnc
    unfold gS at hns; rw [if_pos hg, hcap] at hns
    rcases Nat.eq_zero_or_pos n with z | z
    · have xs0 : xs = [] := List.length_eq_zero_iff.mp (by omega)
      subst xs0
      rw [if_pos z] at hns
      refine isL_add_first hL (h6 z) hx hnc hns (fun q w' hq ew => ?_)
      have hqa : a ≠ q := fun y => hq (y ▸ h1.1)
      refine h w' q ?_ (Or.inr hq) ?_
      · rw [ew]
        have := isK_added (N := max n 1) (d' := q) (w1 := sR (bw_new (sI w a 0 (wI w a 0 + 1)) q 100 10) a 1 (some q)) hlK hx rfl (by omega) (bw_is_new (n := 10) hq h1) (by rw [pR_R, if_pos ⟨rfl, rfl⟩]) (bw_is_self _ q 100 10) (by rw [pN_R, pN_N, if_pos rfl]; rw [show max n 1 = max n (([] : List Nat).length + 1) from rfl, hcap, if_pos z]) (fun i hi => by simp at hi) (fun b hb => ⟨List.mem_append_left _ hb, by rw [pK_R, pK_N, if_neg (show b ≠ q from fun y => hq (by rw [← y]; exact hb))]; rfl⟩)
        exact this
      · rw [ew]
        exact (((((Kp.rfl (X := fun b => b = a ∨ (0 < n ∧ b = d))).sI (fun _ => Or.inl rfl)).new hq).sR (fun _ => Or.inl rfl)).sR (fun y => absurd y hq)).sI (fun _ => Or.inl rfl)
    · obtain ⟨g1, g2, g3, g4⟩ := h7 z
      rw [if_neg (by omega)] at hns
      have hcf := cap_facts n
      have n10 : 10 ≤ n := by have := hcf.2.2 z; omega
      have g3' : wN w d = n := by rw [g3]; omega
      unfold wp_Al_add wp_Al_add2
      have r0 : ∀ v, wR (sI w a 0 v) a 1 = some d := fun v => by rw [pR_I]; exact g1
      refine ⟨h1, nc, ns, Nat.le_refl _, Nat.le_refl _, n, Or.inr ⟨d, r0 _, g2, g3'.symm⟩, fun y => absurd (by rw [i0, en]) y, fun _ => ⟨h1, nc, ns, Nat.le_refl _, Nat.le_refl _, ?_⟩⟩
      unfold wp_Al_grow wp_Al_grow2
      refine ⟨h1, nc, ns, Nat.le_refl _, Nat.le_refl _, h1, n, Or.inr ⟨d, r0 _, g2, g3'.symm⟩, fun i4 e4 => ?_⟩
      have hi4 : 0 < i4 := by rw [e4]; exact nI_lt (a := 0) z (by omega)
      refine ⟨fun _ => ?_, fun y => absurd hi4 y⟩
      unfold wb_Al_grow2_20 wp_Au_newLength
      refine ⟨0, 0, Nat.zero_le _, Nat.zero_le _, fun i1 e1 i2 e2 => ?_⟩
      have hd1 : i1 = nI (n / 2) := by
        rw [e1, e4, nI_sr (by omega), i0, en]
        have : (nI n + 1 - nI n) = nI 1 := by rw [Int32.add_comm, Int32.add_sub_cancel]; rfl
        rw [this, if_pos (nI_lt (by omega) (by omega))]
      have hd2 : i2 = nI (n + n / 2) := by rw [e2, e4, hd1, nI_add]
      have hb1 : ¬ i2 ≤ 0 := by rw [hd2]; exact nI_nle (by omega) (by omega)
      have hb2 : ¬ (2147483639 : Int32) < i2 := by rw [hd2]; exact nI_nlt (a := 2147483639) (b := n + n / 2) (by omega) (by decide)
      refine ⟨fun y => absurd y hb1, fun _ => ⟨fun y => absurd y hb2, fun _ => ⟨h1, nc, ns, Nat.le_refl _, Nat.le_refl _, ?_⟩⟩⟩
      have cN : i2.toNatClampNeg = n + n / 2 := by rw [hd2]; exact nI_clamp (by omega)
      have cn : (nI n).toNatClampNeg = n := nI_clamp (by omega)
      have c0 : (0 : Int32).toNatClampNeg = 0 := by decide
      have M0 : bw_is (sI w a 0 (wI w a 0 + 1)) a 7 := h1
      have M1 : bw_is (sI w a 0 (wI w a 0 + 1)) d 100 := g2
      have M2 : wN (sI w a 0 (wI w a 0 + 1)) d = n := g3'
      have M3 : wR (sI w a 0 (wI w a 0 + 1)) d = wR w d := rfl
      have M4 : Kp (fun b => b = a ∨ (0 < n ∧ b = d)) w (sI w a 0 (wI w a 0 + 1)) := Kp.rfl.sI (fun _ => Or.inl rfl)
      have M5 := r0 (wI w a 0 + 1)
      rw [i0, en]
      have hLL : wL (sI w a 0 (wI w a 0 + 1)) = wL w := rfl
      generalize sI w a 0 (wI w a 0 + 1) = u at M0 M1 M2 M3 M4 M5 hLL ⊢
      unfold wp_As_copyOf wp_As_copyOf2
      refine ⟨d, M5, M1, nc, ns, Nat.le_refl _, Nat.le_refl _, fun y => absurd rfl y, fun _ => ⟨by rw [hd2]; exact nI_pos (by omega), by rw [cN]; omega, hnc, by rw [cN]; exact hns, fun p hp w8 e8 => ?_⟩⟩
      rw [cN] at e8
      have P1 : bw_is w8 a 7 := by rw [e8]; exact bw_is_new (n := n + n / 2) hp M0
      have P2 : bw_is w8 d 100 := by rw [e8]; exact bw_is_new (n := n + n / 2) hp M1
      have P3 : bw_is w8 p 100 := by rw [e8]; exact bw_is_self _ p 100 _
      have hpd : d ≠ p := fun y => hp (by rw [← y]; exact M1.1)
      have hpa : a ≠ p := fun y => hp (by rw [← y]; exact M0.1)
      have P4 : wN w8 d = n := by rw [e8, pN_N, if_neg hpd]; exact M2
      have P5 : wN w8 p = n + n / 2 := by rw [e8, pN_N, if_pos rfl]
      have P6 : wR w8 d = wR w d := by funext j; rw [e8, pR_N, if_neg hpd, M3]
      have P7 : Kp (fun b => b = a ∨ (0 < n ∧ b = d)) w w8 := by rw [e8]; exact M4.new hp
      have hpw : p ∉ wL w := by rw [← hLL]; exact hp
      refine ⟨n, Or.inr ⟨d, M5, P2, P4.symm⟩, fun i12 e12 => ?_⟩
      have hi12 : i12 = nI n := by rw [e12, if_neg (by rw [hd2]; exact nI_nlt (by omega) (by omega))]
      subst hi12
      rw [cn, c0]
      refine ⟨d, M5, P2, by decide, by decide, nI_pos (by omega), by omega, by omega, fun i21 hi21 => ?_, ?_⟩
      · intro b hb
        rw [P6, Nat.zero_add, g4 i21 (by omega)] at hb
        obtain ⟨c, k1, k2⟩ := h5 b (List.mem_of_getElem? hb)
        exact ⟨c, P7.is k1, k2⟩
      · have F1 : bw_is (sR (sRow w8 p (va_cpy (wR w8 d) (wR w8 p) 0 0 n)) a 1 (some p)) a 7 := P1
        have F2 : bw_is (sR (sRow w8 p (va_cpy (wR w8 d) (wR w8 p) 0 0 n)) a 1 (some p)) p 100 := P3
        have F3 : wN (sR (sRow w8 p (va_cpy (wR w8 d) (wR w8 p) 0 0 n)) a 1 (some p)) p = n + n / 2 := P5
        have F4 : Kp (fun b => b = a ∨ (0 < n ∧ b = d)) w (sR (sRow w8 p (va_cpy (wR w8 d) (wR w8 p) 0 0 n)) a 1 (some p)) := (P7.sRow (fun y => absurd y hpw)).sR (fun _ => Or.inl rfl)
        have F5 : wR (sR (sRow w8 p (va_cpy (wR w8 d) (wR w8 p) 0 0 n)) a 1 (some p)) a 1 = some p := by rw [pR_R, if_pos ⟨rfl, rfl⟩]
        have F6 : ∀ i, i < n → wR (sR (sRow w8 p (va_cpy (wR w8 d) (wR w8 p) 0 0 n)) a 1 (some p)) p i = xs[i]? := fun i hi => by
          rw [pR_R, if_neg (fun y => hpa y.1.symm), pR_row, if_pos rfl]
          unfold va_cpy
          rw [if_pos ⟨Nat.zero_le _, by omega⟩, P6, show 0 + (i - 0) = i by omega]
          exact g4 i (by omega)
        refine ⟨P1, add2_11 (d := p) F1 ?_ F2 (by rw [F3]; omega) (by rw [F3]; omega) ?_⟩
        · obtain ⟨c, k1, k2⟩ := hx
          exact ⟨c, F4.is k1, k2⟩
        · have E1 := isK_added (d' := p) hlK hx rfl hN4 F1 F5 F2 (by rw [F3, hcap, if_neg (by omega)]) (fun i hi => F6 i (by omega)) (fun b hb => ⟨F4.L hb, F4.K hb⟩)
          rw [en] at E1 h
          exact h _ p E1 (Or.inr hpw) ((F4.sR (fun y => absurd y hpw)).sI (fun _ => Or.inl rfl))
  · unfold gC at hnc
    have hlt : xs.length < cap n := by have := cap_le n; omega
    have z : 0 < n := by
      rcases Nat.eq_zero_or_pos n with y | y
      · subst y; simp [cap] at hlt
      · exact y
    obtain ⟨g1, g2, g3, g4⟩ := h7 z
    have hda : a ≠ d := is_ne h1 g2 (by decide)
    unfold wp_Al_add wp_Al_add2
    have r0 : ∀ v, wR (sI w a 0 v) a 1 = some d := fun v => by rw [pR_I]; exact g1
    have hcf := cap_facts n
    refine ⟨h1, 0, 0, Nat.zero_le _, Nat.zero_le _, cap n, Or.inr ⟨d, r0 _, g2, g3.symm⟩, fun _ => ?_, fun y => absurd (by rw [i0] at y; exact (nI_eq (by omega) (by omega)).mp y) hg⟩
    rw [i0, r0]
    refine add2_11 h1 hx g2 (show xs.length < wN w d by rw [g3]; exact hlt) (show wN w d ≤ 40000 by rw [g3]; omega) ?_
    refine h _ d ?_ (Or.inl ⟨rfl, z⟩) ?_
    · exact isK_added (w1 := sI w a 0 (wI w a 0 + 1)) hlK hx rfl hN4 h1 (r0 _) g2 (by rw [cap_same hlt h3]; exact g3) (fun i hi => by rw [pR_I]; exact g4 i hi) (fun b hb => ⟨hb, rfl⟩)
    · exact (((Kp.rfl (X := fun b => b = a ∨ (0 < n ∧ b = d))).sI (fun _ => Or.inl rfl)).sR (fun _ => Or.inr ⟨z, rfl⟩)).sI (fun _ => Or.inl rfl)
/-- set -/
theorem isK_set {e0 mi a d n i x y : Nat} {w : Wd} {xs : List Nat} {Q : Option Nat → Wd → Prop} (hl : isK e0 w a d n xs) (hx : ∃ cn, bw_is w x cn ∧ cn < 6 ∧ cn ≠ 5) (hi : xs[i]? = some y)
    (h : ∀ w', isK e0 w' a d n (xs.set i x) → Kp (fun b => b = d) w w' → wL w' = wL w → Q (some y) w') : wp_Al_set e0 mi a (nI i) (some x) w Q := by
  have hlt : i < xs.length := (List.getElem?_eq_some_iff.mp hi).1
  have hlK := hl
  obtain ⟨h1, h2, h3, h4, h5, h6, h7⟩ := hl
  have hn : 0 < n := by omega
  obtain ⟨g1, g2, g3, g4⟩ := h7 hn
  have hcf := cap_facts n
  have hda : a ≠ d := is_ne h1 g2 (by decide)
  have hin : vp_in (nI i) (wN w d) := vp_in_nI (by omega) (by omega)
  unfold wp_Al_set wp_Ob_checkIndex wp_Pr_checkIndex wp_Al_elementData
  refine ⟨h1, fun z => absurd z (nI_pos (by omega)), fun _ => ⟨fun _ => ⟨h1, h1, d, g1, g2, hin, ?_⟩, fun z => absurd (by rw [h2]; exact nI_lt hlt (by omega)) z⟩⟩
  rw [nI_clamp (by omega), g4 i hlt, hi]
  refine ⟨h1, d, g1, g2, hin, fun b hb => (by cases hb; exact hx), h _ ⟨h1, ?_, by simp; exact h3, h4, fun z hz => ?_, fun z => (by omega), fun _ => ⟨?_, g2, g3, fun j hj => ?_⟩⟩ (Kp.rfl.sR (fun _ => rfl)) rfl⟩
  · rw [pI_R, h2]; simp
  · rcases List.mem_or_eq_of_mem_set hz with q | q
    · exact h5 z q
    · rw [q]; exact hx
  · rw [pR_R, if_neg (fun z => hda z.1)]; exact g1
  · rw [pR_R]
    by_cases hj2 : j = i
    · rw [if_pos ⟨rfl, hj2⟩, hj2, List.getElem?_set_self hlt]
    · rw [if_neg (fun z => hj2 z.2), List.getElem?_set_ne (Ne.symm hj2)]
      exact g4 j (by simp at hj; exact hj)
/-- remove, the last one -/
theorem isK_pop {e0 mi a d n x : Nat} {w : Wd} {xs : List Nat} {Q : Option Nat → Wd → Prop} (hl : isK e0 w a d n (xs ++ [x]))
    (h : ∀ w', isK e0 w' a d n xs → Kp (fun b => b = a ∨ b = d) w w' → wL w' = wL w → Q (some x) w') : wp_Al_remove e0 mi a (nI xs.length) w Q := by
  have hlK := hl
  obtain ⟨h1, h2, h3, h4, h5, h6, h7⟩ := hl
  have hlen : (xs ++ [x]).length = xs.length + 1 := by simp
  rw [hlen] at h2 h3 h7
  have hn : 0 < n := by omega
  obtain ⟨g1, g2, g3, g4⟩ := h7 hn
  have hcf := cap_facts n
  have hda : a ≠ d := is_ne h1 g2 (by decide)
  have hin : vp_in (nI xs.length) (wN w d) := vp_in_nI (by omega) (by omega)
  unfold wp_Al_remove wp_Ob_checkIndex wp_Pr_checkIndex wp_Al_fastRemove wb_Al_fastRemove_34
  refine ⟨h1, fun z => absurd z (nI_pos (by omega)), fun _ => ⟨fun _ => ⟨h1, fun r10 e10 => ⟨d, by rw [e10]; exact g1, g2, hin, fun r14 e14 => ⟨h1, fun i2 ei2 => ?_⟩⟩⟩, fun z => absurd (by rw [h2]; exact nI_lt (by omega) (by omega)) z⟩⟩
  have e0' : wI (sI w a 0 (wI w a 0 + 1)) a 2 - 1 = nI xs.length := by rw [pI_I, if_neg (fun z => by simp at z), h2, nI_pred]
  rw [e0'] at ei2 ⊢
  subst ei2
  refine ⟨fun _ => ⟨h1, d, by rw [e10]; exact g1, g2, hin, fun b hb => (by cases hb), ?_⟩, fun z => absurd (nI_le (Nat.le_refl _) (by omega)) z⟩
  have ex : r14 = some x := by rw [e14, nI_clamp (by omega), g4 _ (by omega)]; simp
  rw [ex, nI_clamp (by omega)]
  refine h _ ⟨h1, ?_, by omega, h4, fun z hz => h5 z (List.mem_append_left _ hz), fun z => (by omega), fun _ => ⟨?_, g2, g3, fun j hj => ?_⟩⟩ (((Kp.rfl (X := fun b => b = a ∨ b = d)).sI (fun _ => Or.inl rfl)).sI (fun _ => Or.inl rfl) |>.sR (fun _ => Or.inr rfl)) rfl
  · rw [pI_R, pI_I, if_pos ⟨rfl, rfl⟩]
  · rw [pR_R, if_neg (fun z => hda z.1), pR_I, pR_I]; exact g1
  · rw [pR_R, if_neg (fun z => by omega), pR_I, pR_I, g4 j (by omega), List.getElem?_append_left hj]
