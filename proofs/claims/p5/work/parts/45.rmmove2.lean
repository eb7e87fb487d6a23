/-! THE REFERENCE: an item moves; all items of a belt -/
theorem rds_um {S : St} {k j : Nat} {v : Int32} (hk : k ≠ 22 ∧ k ≠ 23 ∧ k ≠ 24 ∧ k ≠ 1) (b i : Nat) (o n : Int32) : ∀ s, rdsS (um S k j v) b i o n s = rdsS S b i o n s
  | 0 => rfl
  | s + 1 => by
    unfold rdsS
    rw [rds_um hk b i o n s, mm_um_ne S j v (Ne.symm hk.1), mm_um_ne S j v (Ne.symm hk.2.1), mm_um_ne S j v (Ne.symm hk.2.2.1), mm_um_ne S j v (Ne.symm hk.2.2.2)]
theorem wts_mv1 (S : St) (b : Nat) (most : Int32) (i : Nat) : wts (mv1S S b most i) = wts S ++ rdsS S b i (mm S 15 i) (toS S b most i) (nS S) := (rfl)
theorem rr_mv1 (S : St) (b : Nat) (most : Int32) (i : Nat) : rr (mv1S S b most i) = rr S := (rfl)
theorem nS_mv1 (S : St) (b : Nat) (most : Int32) (i : Nat) : nS (mv1S S b most i) = nS S := (rfl)
theorem wts_mvL (b : Nat) : ∀ (l : List Nat) (S : St) (p : Option Nat), (wts S).length ≤ (wts (mvLS S b p l)).length
  | [], S, p => by unfold mvLS; exact Nat.le_refl _
  | i :: t, S, p => by
    unfold mvLS
    refine Nat.le_trans ?_ (wts_mvL b t _ _)
    rw [wts_mv1]; simp
section MO
variable {e0 mi m : Nat} {A : Nat → Nat}
theorem M_mv1 {S : St} {b i : Nat} {x2 most : Int32} {K2 : Nat → Int32 → Int32 → Wd → Prop} {Q : Wd → Prop} {w : Wd} (h : RM S w m A) (hb : b < 8) (hi : i < 61) (hn4 : nS S ≤ 4) (hwt : (wts (mv1S S b most i)).length < 3000)
    (hQ : ∀ w', RM (mv1S S b most i) w' m A → FM m A w w' → ∀ i6 : Int32, i6 = x2 + 1 → K2 m (nI b) i6 w') : wb_Mo_move_59 e0 mi K2 Q m (nI b) x2 (nI i) most w := by
  have ci : (nI i).toNatClampNeg = i := nI_clamp (by omega)
  have c : (nI b).toNatClampNeg = b := nI_clamp (by omega)
  have v15 : wI w (A 15) i = mm S 15 i := h.2.2.2.1 15 (by unfold isInt; decide) i hi
  have v19 : wI w (A 19) i = mm S 19 i := h.2.2.2.1 19 (by unfold isInt; decide) i hi
  have v5 : wI w (A 5) b = mm S 5 b := h.2.2.2.1 5 (by unfold isInt; decide) b hb
  have v4 : wI w (A 4) b = mm S 4 b := h.2.2.2.1 4 (by unfold isInt; decide) b hb
  -- behind the choice of the place
  have L4 : ∀ (t2 to : Int32), to = toS S b most i → wb_Mo_move_138 e0 mi K2 Q m (nI b) x2 (nI i) most t2 to w := fun t2 to hto => by
    unfold wb_Mo_move_138
    refine ⟨h.1.1, ldA h.1 19 (n := 61) rfl (by decide) rfl rfl hi (ldA h.1 5 (n := 8) rfl (by decide) rfl rfl hb ⟨vA h.1 19 (n := 61) (by decide) rfl rfl hi, ?_⟩)⟩
    rw [ci, c, v19, v5]
    have R1 := RM_um h (k := 19) (i := i) (by unfold isInt; decide) (mm S 19 i + mm S 5 b)
    have F1 := (FM.rfl (m := m) (A := A) (w := w)).ar (k := 19) (by decide) (isM_ne h.1 (by decide)) i (mm S 19 i + mm S 5 b)
    have q19 : wI (sI w (A 19) i (mm S 19 i + mm S 5 b)) (A 19) i = mm S 19 i + mm S 5 b := by rw [pI_I, if_pos ⟨rfl, rfl⟩]
    have q4 : wI (sI w (A 19) i (mm S 19 i + mm S 5 b)) (A 4) b = mm S 4 b := by rw [pI_I, if_neg (fun z => isM_nn h.1 (j := 4) (k := 19) (by decide) (by decide) (by decide) z.1), v4]
    generalize sI w (A 19) i (mm S 19 i + mm S 5 b) = u at R1 F1 q19 q4 ⊢
    have L5 : ∀ z2 : Int32, z2 = expS S b i → wb_Mo_move_190 e0 mi K2 Q m (nI b) x2 (nI i) most to (wR u m 19) (nI i) z2 u := fun z2 hz2 => by
      unfold wb_Mo_move_190
      refine ldA R1.1 19 (n := 61) rfl (by decide) rfl rfl hi ⟨nS S + 1, ?_⟩
      rw [ci]
      have R2 := RM_um R1 (k := 19) (i := i) (by unfold isInt; decide) z2
      rw [um_um] at R2
      have F2 := F1.ar (k := 19) (by decide) (isM_ne h.1 (by decide)) i z2
      have m15 : mm (um S 19 i z2) 15 i = mm S 15 i := by rw [mm_um_ne S i z2 (by decide)]
      have er : rdsS (um S 19 i z2) b i (mm (um S 19 i z2) 15 i) to (nS S) = rdsS S b i (mm S 15 i) (toS S b most i) (nS S) := by rw [rds_um (by decide), m15, hto]
      refine M_scan (S := um S 19 i z2) (N := max (wX S) (wts S ++ rdsS S b i (mm S 15 i) (toS S b most i) (nS S)).length) (w0 := w) hb hi hn4 ?_ (fun w' R' F' => ?_) (nS S) 0 _ (by rw [nS_um]; omega) ?_ F2
      · rw [nS_um, er, wts_um, ← wts_mv1]; exact hwt
      · rw [nS_um, er, wts_um, hto, hz2] at R'
        exact hQ w' R' F'
      · have e0' : wts (um S 19 i z2) ++ rdsS (um S 19 i z2) b i (mm (um S 19 i z2) 15 i) to 0 = wts (um S 19 i z2) := by unfold rdsS; rw [List.append_nil]
        rw [e0']
        exact R2
    refine ldA R1.1 19 (n := 61) rfl (by decide) rfl rfl hi (ldA R1.1 4 (n := 8) rfl (by decide) rfl rfl hb ?_)
    rw [q19, q4]
    refine ⟨fun z => ⟨vA R1.1 19 (n := 61) (by decide) rfl rfl hi, L5 _ ?_⟩, fun z => ⟨vA R1.1 4 (n := 8) (by decide) rfl rfl hb, L5 _ ?_⟩⟩
    · unfold expS; rw [if_neg (Int32.not_lt.mpr z)]
    · unfold expS; rw [if_pos (Int32.not_le.mp z)]
  unfold wb_Mo_move_59
  refine ⟨h.1.1, ldA h.1 15 (n := 61) rfl (by decide) rfl rfl hi (ldA h.1 5 (n := 8) rfl (by decide) rfl rfl hb (fun i8 e8 => ?_))⟩
  rw [ci, c, v15, v5] at e8
  have L3 : ∀ t1 t2 : Int32, t1 = (if mm S 4 b < i8 then mm S 4 b else i8) → t2 = (if most < t1 then most else t1) → wb_Mo_move_114 e0 mi K2 Q m (nI b) x2 (nI i) most t1 t2 w := fun t1 t2 h1 h2 => by
    unfold wb_Mo_move_114
    refine ⟨h.1.1, ldA h.1 15 (n := 61) rfl (by decide) rfl rfl hi ?_⟩
    rw [ci, v15]
    refine ⟨fun z => L4 _ _ ?_, fun z => ⟨vA h.1 15 (n := 61) (by decide) rfl rfl hi, L4 _ _ ?_⟩⟩
    · unfold toS
      simp only []
      rw [← e8, ← h1, ← h2, if_neg (Int32.not_lt.mpr z)]
    · unfold toS
      simp only []
      rw [← e8, ← h1, ← h2, if_pos (Int32.not_le.mp z)]
  have L2 : ∀ t1 : Int32, t1 = (if mm S 4 b < i8 then mm S 4 b else i8) → wb_Mo_move_98 e0 mi K2 Q m (nI b) x2 (nI i) most i8 t1 w := fun t1 h1 => by
    unfold wb_Mo_move_98
    refine ⟨fun z => L3 _ _ h1 ?_, fun z => L3 _ _ h1 ?_⟩
    · rw [if_neg (Int32.not_lt.mpr z)]
    · rw [if_pos (Int32.not_le.mp z)]
  refine ldA h.1 4 (n := 8) rfl (by decide) rfl rfl hb ?_
  rw [c, v4]
  refine ⟨fun z => L2 _ ?_, fun z => ⟨vA h.1 4 (n := 8) (by decide) rfl rfl hb, L2 _ ?_⟩⟩
  · rw [if_neg (Int32.not_lt.mpr z)]
  · rw [if_pos (Int32.not_le.mp z)]
def prevS (l : List Nat) (k : Nat) : Option Nat := if k = 0 then none else l[k - 1]?
theorem M_move_l {b : Nat} {l : List Nat} {Q : Wd → Prop} {w0 : Wd} (hb : b < 8) (hl : l.length ≤ 60) (hl2 : ∀ i ∈ l, i < 61) : ∀ (n k : Nat) (S : St) (w : Wd), k + n = l.length → rr S b = l → nS S ≤ 4 → RM S w m A → FM m A w0 w → (wts (mvLS S b (prevS l k) (l.drop k))).length < 3000 →
    (∀ w', RM (mvLS S b (prevS l k) (l.drop k)) w' m A → FM m A w0 w' → Q w') → wb_Mo_move_2 e0 mi Q (n + 1) m (nI b) (nI k) w := by
  have c : (nI b).toNatClampNeg = b := nI_clamp (by omega)
  intro n
  induction n with
  | zero =>
    intro k S w hk hr hn4 R F hwt hQ
    have hkl : k = l.length := by omega
    have hd : l.drop k = [] := by rw [hkl]; exact List.drop_length
    rw [hd] at hQ
    unfold mvLS at hQ
    unfold wb_Mo_move_2
    refine ⟨R.1.1, ldA R.1 10 (n := 8) rfl (by decide) rfl rfl hb ?_⟩
    rw [c, (R.2.2.2.2.1 b hb).1, hr]
    exact ⟨fun _ => hQ w R F, fun z => absurd (nI_le (by omega) (by omega)) z⟩
  | succ n ih =>
    intro k S w hk hr hn4 R F hwt hQ
    have hkl : k < l.length := by omega
    obtain ⟨i, hi⟩ : ∃ i, l[k]? = some i := ⟨l[k], List.getElem?_eq_getElem hkl⟩
    have hi61 : i < 61 := hl2 i (List.mem_of_getElem? hi)
    have hd : l.drop k = i :: l.drop (k + 1) := by
      rw [List.drop_eq_getElem_cons hkl]
      have := List.getElem?_eq_getElem hkl
      rw [hi] at this
      cases this
      rfl
    have hp1 : prevS l (k + 1) = some i := by unfold prevS; rw [if_neg (by omega)]; exact hi
    rw [hd] at hQ hwt
    have em : mvLS S b (prevS l k) (i :: l.drop (k + 1)) = mvLS (mv1S S b (mostS S b (prevS l k)) i) b (prevS l (k + 1)) (l.drop (k + 1)) := by
      rw [hp1]; conv => lhs; unfold mvLS
    rw [em] at hQ hwt
    have hw1 : (wts (mv1S S b (mostS S b (prevS l k)) i)).length < 3000 := Nat.lt_of_le_of_lt (wts_mvL b _ _ _) hwt
    have L : ∀ most : Int32, most = mostS S b (prevS l k) → wb_Mo_move_59 e0 mi (wb_Mo_move_2 e0 mi Q (n + 1)) Q m (nI b) (nI k) (nI i) most w := fun most hm => by
      rw [hm]
      refine M_mv1 R hb hi61 hn4 hw1 (fun w' R' F' i6 e6 => ?_)
      rw [e6, nI_1]
      exact ih (k + 1) _ w' (by omega) (by rw [rr_mv1]; exact hr) (by rw [nS_mv1]; exact hn4) R' (F.trans F') hwt hQ
    have hrow : ∀ j x, l[j]? = some x → wI w (A 11) (60 * b + j) = nI x := fun j x hx => (R.2.2.2.2.1 b hb).2 j x (by rw [hr]; exact hx)
    unfold wb_Mo_move_2
    refine ⟨R.1.1, ldA R.1 10 (n := 8) rfl (by decide) rfl rfl hb ?_⟩
    rw [c, (R.2.2.2.2.1 b hb).1, hr]
    refine ⟨fun z => absurd z (nI_ge hkl (by omega)), fun _ => ldA R.1 11 (n := 480) rfl (by decide) rfl (i60 b k) (by omega) (fun i9 e9 => ?_)⟩
    rw [i60, nI_clamp (by omega), hrow k i hi] at e9
    subst e9
    refine ⟨fun z => ?_, fun z => ?_⟩
    · have hk0 : 0 < k := by
        rcases Nat.eq_zero_or_pos k with q | q
        · subst q; exact absurd rfl z
        · exact q
      have e1 : ((60 : Int32) * nI b + nI k) - 1 = nI (60 * b + (k - 1)) := by
        rw [i60, show 60 * b + k = (60 * b + (k - 1)) + 1 by omega, nI_pred]
      obtain ⟨a, ha⟩ : ∃ a, l[k - 1]? = some a := ⟨l[k - 1]'(by omega), List.getElem?_eq_getElem (by omega)⟩
      refine ⟨vA R.1 11 (n := 480) (by decide) rfl e1 (by omega), ?_⟩
      rw [e1, nI_clamp (by omega), hrow (k - 1) a ha]
      refine M_rear R (hl2 a (List.mem_of_getElem? ha)) ⟨R.1.1, L _ ?_⟩
      rw [R.2.1.2.1]
      unfold prevS
      rw [if_neg (by omega), ha]
      rfl
    · have hk0 : k = 0 := (nI_eq (b := 0) (by omega) (by omega)).mp z
      refine ldA R.1 4 (n := 8) rfl (by decide) rfl rfl hb (L _ ?_)
      rw [R.2.2.2.1 4 (by unfold isInt; decide) b hb]
      unfold prevS
      rw [if_pos hk0]
      rfl
theorem M_move {S : St} {b : Nat} {Q : Wd → Prop} {w : Wd} (h : RM S w m A) (hb : b < 8) (hr : okR S) (hn4 : nS S ≤ 4) (hwt : (wts (moveS S b)).length < 3000) (hQ : ∀ w', RM (moveS S b) w' m A → FM m A w w' → Q w') : wp_Mo_move e0 mi m (nI b) w Q := by
  unfold wp_Mo_move
  have hlen := (hr b hb).1
  have e0' : mvLS S b (prevS (rr S b) 0) ((rr S b).drop 0) = moveS S b := rfl
  exact ⟨(rr S b).length + 1, M_move_l (l := rr S b) (w0 := w) hb hlen (fun i hi => by have := ((hr b hb).2 i hi).2; omega) (rr S b).length 0 S w (by omega) rfl hn4 h FM.rfl (by rw [e0']; exact hwt) (by rw [e0']; exact hQ)⟩
end MO
