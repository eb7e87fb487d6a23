/-! CALLS OF THE REFERENCE: scanner -/
section MO
variable {e0 mi m : Nat} {A : Nat → Nat} {S : St} {w : Wd}
theorem N_scanner {x1 x2 x3 : Int32} {Q : Int32 → Wd → Prop} (h : RM S w m A) (hS : okS S) (h1 : ¬ (∃ b, b < nB S ∧ x1 = nI b) → ∀ w', PM m A S 1 w w' → Q 0 w')
    (h2 : ∀ b, b < nB S → x1 = nI b → ¬ (rng x2 1 (mm S 4 b) ∧ rng x3 1 20) → ∀ w', PM m A S 2 w w' → Q 0 w') (h3 : ∀ b, b < nB S → x1 = nI b → rng x2 1 (mm S 4 b) ∧ rng x3 1 20 → nS S = 4 → ∀ w', PM m A S 3 w w' → Q 0 w')
    (h0 : ∀ b, b < nB S → x1 = nI b → rng x2 1 (mm S 4 b) ∧ rng x3 1 20 → nS S < 4 → ∀ w', PM m A (scanS S (nI b) x2 x3) 0 w w' → Q (nI (nS S)) w') : wp_Mo_scanner e0 mi m x1 x2 x3 w Q := by
  have hm := h.1.1
  have hb8 := hS.1.1
  have hs4 := hS.1.2.2
  have T : ∀ c, ¬ c ≤ (0 : Int32) → Q 0 (sI w m 0 c) → wb_Mo_scanner_68 e0 mi Q m x1 x2 x3 (some m) c w := fun c hc hq => by
    unfold wb_Mo_scanner_68
    exact ⟨m, rfl, hm, hm, fun y => absurd y (by rw [cd_e]; exact hc), fun _ => hq⟩
  unfold wp_Mo_scanner
  refine ⟨hm, M_isBelt h hS (fun z => ⟨fun y => absurd rfl y, fun _ => T 1 (by decide) (h1 z _ (PM_code h FX.rfl 1))⟩) (fun b hb hx => ⟨fun _ => ⟨hm, mo_in (fun _ => ⟨fun y => absurd y (by decide), fun _ => ?_⟩) (fun z => absurd ?_ z)⟩, fun y => absurd y (by decide)⟩)⟩
  · unfold wb_Mo_scanner_34 wb_Mo_scanner_51
    have b8 : b < 8 := by omega
    have c : (nI b).toNatClampNeg = b := nI_clamp (by omega)
    refine ldA h.1 4 (n := 8) rfl (by decide) rfl hx b8 ?_
    rw [hx, c, h.2.2.2.1 4 (by unfold isInt; decide) b b8, ← hx]
    have l21 : wI w m 21 = nI (nS S) := h.2.2.1.2.2.1
    have key : wI w m 21 = 4 ↔ nS S = 4 := by rw [l21]; exact nI_eq (b := 4) (by omega) (by omega)
    refine mo_in (fun za => ⟨fun y => absurd y (by decide), fun _ => mo_in (fun zb => ⟨fun _ => ⟨hm, fun z => ?_, fun z => T 3 (by decide) (h3 b hb hx ⟨za, zb⟩ (key.mp z) _ (PM_code h FX.rfl 3))⟩, fun y => absurd y (by decide)⟩) (fun zb => ⟨fun y => absurd rfl y, fun _ => T 2 (by decide) (h2 b hb hx (fun y => zb y.2) _ (PM_code h FX.rfl 2))⟩)⟩) (fun za => ⟨fun _ => T 2 (by decide) (h2 b hb hx (fun y => za y.1) _ (PM_code h FX.rfl 2)), fun y => absurd rfl y⟩)
    have n4 : nS S < 4 := by
      have : ¬ nS S = 4 := fun y => z (key.mpr y)
      omega
    have p0 := PM_code h FX.rfl 0
    have hq := h0 b hb hx ⟨za, zb⟩ n4
    rw [← hx] at hq
    unfold wb_Mo_scanner_68
    refine ⟨m, rfl, hm, hm, fun _ => ?_, fun y => absurd (by rw [cd_e]; decide) y⟩
    generalize sI w m 0 0 = u0 at p0 ⊢
    have ne : ∀ k, 0 < mKd k → A k ≠ m := fun k hk => isM_ne h.1 hk
    have R1 := RM_um p0.1 (k := 22) (i := nS S) (by unfold isInt; decide) x1
    have R2 := RM_um R1 (k := 23) (i := nS S) (by unfold isInt; decide) x2
    have R3 := RM_um R2 (k := 24) (i := nS S) (by unfold isInt; decide) x3
    have R4 := RM_nS R3 (nS S + 1)
    have e0' : wI u0 m 21 = nI (nS S) := p0.1.2.2.1.2.2.1
    have e1 : wI (sI u0 (A 22) (nS S) x1) m 21 = nI (nS S) := R1.2.2.1.2.2.1
    have e2 : wI (sI (sI u0 (A 22) (nS S) x1) (A 23) (nS S) x2) m 21 = nI (nS S) := R2.2.2.1.2.2.1
    have e3 : wI (sI (sI (sI u0 (A 22) (nS S) x1) (A 23) (nS S) x2) (A 24) (nS S) x3) m 21 = nI (nS S) := R3.2.2.1.2.2.1
    have cs : (nI (nS S)).toNatClampNeg = nS S := nI_clamp (by omega)
    have FF := (((FM.rfl (m := m) (A := A) (w := u0)).ar (k := 22) (by decide) (ne 22 (by decide)) (nS S) x1).ar (k := 23) (by decide) (ne 23 (by decide)) (nS S) x2).ar (k := 24) (by decide) (ne 24 (by decide)) (nS S) x3
    have R4' : RM (scanS S x1 x2 x3) (sI (sI (sI (sI u0 (A 22) (nS S) x1) (A 23) (nS S) x2) (A 24) (nS S) x3) m 21 (nI (nS S + 1))) m A := R4
    have hq2 := hq _ (PM_fm p0 (FF.sc (s := 21) (by decide) (nI (nS S + 1))) R4')
    rw [e0', cs]
    refine ldA p0.1.1 22 (n := 4) rfl (by decide) rfl rfl n4 ?_
    rw [e1, cs]
    refine ldA R1.1 23 (n := 4) rfl (by decide) rfl rfl n4 ?_
    rw [e2, cs]
    refine ldA R2.1 24 (n := 4) rfl (by decide) rfl rfl n4 ?_
    rw [e3, pI_I, if_pos ⟨rfl, rfl⟩, nI_1]
    have e5 : nI (nS S + 1) - 1 = nI (nS S) := by
      rw [show (1 : Int32) = nI 1 from rfl, pk_sub (by omega)]; rfl
    rw [e5]
    exact hq2
  · rw [hx]
    exact ⟨fun y => absurd y (by rw [Int32.lt_iff_toInt_lt, nI_toInt (by omega), show (0 : Int32).toInt = 0 from by decide]; omega), fun y => absurd y (by rw [Int32.lt_iff_toInt_lt, nI_toInt (by omega), show (7 : Int32).toInt = 7 from by decide]; omega)⟩
theorem N_item {x1 x2 : Int32} {Q : Int32 → Wd → Prop} (h : RM S w m A) (hS : okS S) (h1 : ¬ (∃ b, b < nB S ∧ x1 = nI b) → ∀ w', PM m A S 1 w w' → Q 0 w')
    (h2 : (∃ b, b < nB S ∧ x1 = nI b) → ¬ rng x2 1 2000 → ∀ w', PM m A S 2 w w' → Q 0 w') (h3 : (∃ b, b < nB S ∧ x1 = nI b) → rng x2 1 2000 → nT S = 60 → ∀ w', PM m A S 3 w w' → Q 0 w')
    (h4 : ∀ b, b < nB S → x1 = nI b → rng x2 1 2000 → nT S < 60 → (0 : Int32) < missS S b → ∀ w', PM m A S 0 w w' → Q (-(missS S b)) w')
    (h0 : ∀ b, b < nB S → x1 = nI b → rng x2 1 2000 → nT S < 60 → ¬ (0 : Int32) < missS S b → ∀ w', PM m A (itemS S b x2) 0 w w' → Q (nI (nT S + 1)) w') : wp_Mo_item e0 mi m x1 x2 w Q := by
  have hm := h.1.1
  have hb8 := hS.1.1
  have hT := hS.1.2.1
  have T : ∀ c, ¬ c ≤ (0 : Int32) → Q 0 (sI w m 0 c) → wb_Mo_item_42 e0 mi Q m x1 x2 (some m) c w := fun c hc hq => by
    unfold wb_Mo_item_42
    exact ⟨m, rfl, hm, hm, fun y => absurd y (by rw [cd_e]; exact hc), fun _ => hq⟩
  have l12 : wI w m 12 = nI (nT S) := h.2.2.1.2.1
  have key : wI w m 12 = 60 ↔ nT S = 60 := by rw [l12]; exact nI_eq (b := 60) (by omega) (by omega)
  unfold wp_Mo_item
  refine ⟨hm, M_isBelt h hS (fun z => ⟨fun y => absurd rfl y, fun _ => T 1 (by decide) (h1 z _ (PM_code h FX.rfl 1))⟩) (fun b hb hx => ⟨fun _ => mo_in (fun zb => ⟨fun _ => ⟨hm, fun z => ?_, fun z => T 3 (by decide) (h3 ⟨b, hb, hx⟩ zb (key.mp z) _ (PM_code h FX.rfl 3))⟩, fun y => absurd y (by decide)⟩) (fun zb => ⟨fun y => absurd rfl y, fun _ => T 2 (by decide) (h2 ⟨b, hb, hx⟩ zb _ (PM_code h FX.rfl 2))⟩), fun y => absurd y (by decide)⟩)⟩
  have b8 : b < 8 := by omega
  have n6 : nT S < 60 := by
    have : ¬ nT S = 60 := fun y => z (key.mpr y)
    omega
  have p0 := PM_code h FX.rfl 0
  have hr := okS_R hS
  have hq := h0 b hb hx zb n6
  have hq4 := h4 b hb hx zb n6
  unfold wb_Mo_item_42
  refine ⟨m, rfl, hm, hm, fun _ => ?_, fun y => absurd (by rw [cd_e]; decide) y⟩
  generalize sI w m 0 0 = u0 at p0 ⊢
  rw [hx]
  refine M_missing p0.1 b8 hr ⟨fun z1 => ⟨p0.1.1.1, ?_⟩, fun z1 => ⟨p0.1.1.1, M_missing p0.1 b8 hr (hq4 (Int32.not_le.mp z1) _ p0)⟩⟩
  have hq := hq (Int32.not_lt.mpr z1)
  have e0' : wI u0 m 12 = nI (nT S) := p0.1.2.2.1.2.1
  rw [e0', nI_1]
  have ne : ∀ k, 0 < mKd k → A k ≠ m := fun k hk => isM_ne h.1 hk
  have cs : (nI (nT S + 1)).toNatClampNeg = nT S + 1 := nI_clamp (by omega)
  have R0 := RM_nT p0.1 (nT S + 1)
  have R1 := RM_um R0 (k := 16) (i := nT S + 1) (by unfold isInt; decide) x2
  have R2 := RM_um R1 (k := 13) (i := nT S + 1) (by unfold isInt; decide) 0
  have R3 := RM_um R2 (k := 20) (i := nT S + 1) (by unfold isInt; decide) (mm S 1 0)
  have F3 := ((((FM.rfl (m := m) (A := A) (w := u0)).sc (s := 12) (by decide) (nI (nT S + 1))).ar (k := 16) (by decide) (ne 16 (by decide)) (nT S + 1) x2).ar (k := 13) (by decide) (ne 13 (by decide)) (nT S + 1) 0).ar (k := 20) (by decide) (ne 20 (by decide)) (nT S + 1) (mm S 1 0)
  have a0 : wI (sI u0 m 12 (nI (nT S + 1))) m 12 = nI (nT S + 1) := R0.2.2.1.2.1
  rw [a0, cs]
  refine ldA R0.1 16 (n := 61) rfl (by decide) rfl rfl (by omega) ?_
  have a1 : wI (sI (sI u0 m 12 (nI (nT S + 1))) (A 16) (nT S + 1) x2) m 12 = nI (nT S + 1) := R1.2.2.1.2.1
  rw [a1, cs]
  refine ldA R1.1 13 (n := 61) rfl (by decide) rfl rfl (by omega) ?_
  have a2 : wI (sI (sI (sI u0 m 12 (nI (nT S + 1))) (A 16) (nT S + 1) x2) (A 13) (nT S + 1) 0) m 12 = nI (nT S + 1) := R2.2.2.1.2.1
  have t2 : wI (sI (sI (sI u0 m 12 (nI (nT S + 1))) (A 16) (nT S + 1) x2) (A 13) (nT S + 1) 0) m 1 = mm S 1 0 := R2.2.1.1
  rw [a2, t2, cs]
  refine ldA R2.1 20 (n := 61) rfl (by decide) rfl rfl (by omega) ?_
  have a3 : wI (sI (sI (sI (sI u0 m 12 (nI (nT S + 1))) (A 16) (nT S + 1) x2) (A 13) (nT S + 1) 0) (A 20) (nT S + 1) (mm S 1 0)) m 12 = nI (nT S + 1) := R3.2.2.1.2.1
  rw [a3]
  have R4 : RM (item1 S x2) _ m A := R3
  refine M_come R4 b8 (by omega) ?_ ?_ (fun w' R' F' => ?_)
  · have hle : (rr S b).length ≤ nT S := nodup_le (nT S) _ (hS.2.2.2.1 b) (fun i hi => ⟨(hS.2.2.1 b i hi).1, (hS.2.2.1 b i hi).2.1⟩)
    show (rr S b).length < 60
    omega
  · exact hr
  · have l : wI w' m 12 = nI (nT S + 1) := R'.2.2.1.2.1
    rw [l]
    exact ⟨R'.1.1, hq _ (PM_fm p0 (F3.trans F') R')⟩
end MO
