/-! CALLS OF THE REFERENCE: told, edge, divert, take, belt -/
theorem w7 (x : Int32) (P : Int32 → Prop) {n : Nat} (hn : n < 2 ^ 30) (h : rng x 0 (nI n)) : ∃ j, j ≤ n ∧ x = nI j := by
  rcases ix_cases x (n := n + 1) (by omega) with ⟨j, hj, hx⟩ | ⟨-, hz⟩
  · exact ⟨j, by omega, hx⟩
  · exfalso
    rcases hz with z | z
    · exact h.1 z
    · have h2 := h.2
      rw [Int32.lt_iff_toInt_lt] at h2 z
      rw [nI_toInt (show n < 2 ^ 31 by omega)] at h2
      rw [nI_toInt (show n + 1 < 2 ^ 31 by omega)] at z
      omega
theorem rng_out {x : Int32} {n : Nat} (hn : n < 2 ^ 31) : ¬ rng x 0 (nI n) ↔ (x.toInt < 0 ∨ (n : Int) < x.toInt) := by
  unfold rng
  rw [Int32.lt_iff_toInt_lt, Int32.lt_iff_toInt_lt, nI_toInt hn]
  have e0' : (0 : Int32).toInt = 0 := by decide
  rw [e0']
  omega
section MO
variable {e0 mi m : Nat} {A : Nat → Nat} {S : St} {w : Wd}
theorem N_told {x1 x2 : Int32} {Q : Int32 → Wd → Prop} (h : RM S w m A) (hS : okS S) (h1 : ¬ (∃ i, 1 ≤ i ∧ i ≤ nT S ∧ x1 = nI i) → ∀ w', PM m A S 1 w w' → Q 0 w')
    (h2 : (∃ i, 1 ≤ i ∧ i ≤ nT S ∧ x1 = nI i) → (x2.toInt < 0 ∨ 6 < x2.toInt) → ∀ w', PM m A S 2 w w' → Q 0 w')
    (h0 : ∀ i, 1 ≤ i → i ≤ nT S → x1 = nI i → ∀ w', PM m A S 0 w w' → (x2 = 0 → Q (mm S 13 i) w') ∧ (x2 = 1 → Q (mm S 14 i) w') ∧ (x2 = 2 → Q (if mm S 13 i = 0 then mm S 15 i else -1) w') ∧ (x2 = 3 → Q (mm S 16 i) w') ∧ (x2 = 4 → Q (mm S 17 i) w') ∧ (x2 = 5 → Q (if mm S 13 i = 0 then mm S 19 i else -1) w') ∧ (x2 = 6 → Q (mm S 20 i) w')) : wp_Mo_told e0 mi m x1 x2 w Q := by
  have hm := h.1.1
  have hT := hS.1.2.1
  have T : ∀ c, ¬ c ≤ (0 : Int32) → Q 0 (sI w m 0 c) → wb_Mo_told_28 e0 mi Q m x1 x2 (some m) c w := fun c hc hq => by
    unfold wb_Mo_told_28
    exact ⟨m, rfl, hm, hm, fun y => absurd y (by rw [cd_e]; exact hc), fun _ => hq⟩
  unfold wp_Mo_told
  refine ⟨hm, M_isItem h hS (fun z => ⟨fun y => absurd rfl y, fun _ => T 1 (by decide) (h1 z _ (PM_code h FX.rfl 1))⟩) (fun i i1 i2' hx => ⟨fun _ => mo_in (fun z => ⟨fun _ => ?_, fun y => absurd y (by decide)⟩) (fun z => ⟨fun y => absurd rfl y, fun _ => T 2 (by decide) (h2 ⟨i, i1, i2', hx⟩ ((rng_out (n := 6) (by decide)).mp z) _ (PM_code h FX.rfl 2))⟩), fun y => absurd y (by decide)⟩)⟩
  have p0 := PM_code h FX.rfl 0
  obtain ⟨a0, a1, a2, a3, a4, a5, a6⟩ := h0 i i1 i2' hx _ p0
  have i61 : i < 61 := by omega
  have c : (nI i).toNatClampNeg = i := nI_clamp (by omega)
  unfold wb_Mo_told_28 wb_Mo_told_87 wb_Mo_told_145
  refine ⟨m, rfl, hm, hm, fun _ => ?_, fun y => absurd (by rw [cd_e]; decide) y⟩
  generalize sI w m 0 0 = u at p0 a0 a1 a2 a3 a4 a5 a6 ⊢
  have g := p0.1.2.2.2.1
  have v13 := g 13 (by unfold isInt; decide) i i61
  have v14 := g 14 (by unfold isInt; decide) i i61
  have v15 := g 15 (by unfold isInt; decide) i i61
  have v16 := g 16 (by unfold isInt; decide) i i61
  have v17 := g 17 (by unfold isInt; decide) i i61
  have v19 := g 19 (by unfold isInt; decide) i i61
  have v20 := g 20 (by unfold isInt; decide) i i61
  obtain ⟨j, hj, hx2⟩ := w7 x2 (fun _ => True) (n := 6) (by decide) z
  rw [hx, c]
  refine ⟨fun n0 => ⟨fun n1 => ⟨fun n2 => ⟨fun n3 => ⟨fun n4 => ⟨fun n5 => ldA p0.1.1 20 (n := 61) rfl (by decide) rfl rfl i61 ?_, fun y => ldA p0.1.1 13 (n := 61) rfl (by decide) rfl rfl i61 ?_⟩, fun y => ldA p0.1.1 17 (n := 61) rfl (by decide) rfl rfl i61 ?_⟩, fun y => ldA p0.1.1 16 (n := 61) rfl (by decide) rfl rfl i61 ?_⟩, fun y => ldA p0.1.1 13 (n := 61) rfl (by decide) rfl rfl i61 ?_⟩, fun y => ldA p0.1.1 14 (n := 61) rfl (by decide) rfl rfl i61 ?_⟩, fun y => ldA p0.1.1 13 (n := 61) rfl (by decide) rfl rfl i61 ?_⟩
  · rw [v20]
    have : x2 = 6 := by
      rw [hx2] at n0 n1 n2 n3 n4 n5 ⊢
      have : j = 0 ∨ j = 1 ∨ j = 2 ∨ j = 3 ∨ j = 4 ∨ j = 5 ∨ j = 6 := by omega
      rcases this with u | u | u | u | u | u | u <;> subst u
      · exact absurd rfl n0
      · exact absurd rfl n1
      · exact absurd rfl n2
      · exact absurd rfl n3
      · exact absurd rfl n4
      · exact absurd rfl n5
      · rfl
    exact a6 this
  · rw [v13]
    refine ⟨fun z3 => ?_, fun z3 => ldA p0.1.1 19 (n := 61) rfl (by decide) rfl rfl i61 ?_⟩
    · have := a5 y; rw [if_neg z3] at this; exact this
    · have := a5 y; rw [if_pos z3] at this; rw [v19]; exact this
  · rw [v17]; exact a4 y
  · rw [v16]; exact a3 y
  · rw [v13]
    refine ⟨fun z3 => ?_, fun z3 => ldA p0.1.1 15 (n := 61) rfl (by decide) rfl rfl i61 ?_⟩
    · have := a2 y; rw [if_neg z3] at this; exact this
    · have := a2 y; rw [if_pos z3] at this; rw [v15]; exact this
  · rw [v14]; exact a1 y
  · rw [v13]; exact a0 y
theorem N_take {x1 : Int32} {Q : Wd → Prop} (h : RM S w m A) (hS : okS S) (h1 : ¬ (∃ i, 1 ≤ i ∧ i ≤ nT S ∧ x1 = nI i) → ∀ w', PM m A S 1 w w' → Q w') (h3 : ∀ i, 1 ≤ i → i ≤ nT S → x1 = nI i → ¬ mm S 13 i = 0 → ∀ w', PM m A S 2 w w' → Q w')
    (h0 : ∀ i b p, (rr S b)[p]? = some i → x1 = nI i → ∀ w', PM m A (um (ur S b ((rr S b).eraseIdx p)) 13 i 2) 0 w w' → Q w') : wp_Mo_take e0 mi m x1 w Q := by
  have hm := h.1.1
  have hT := hS.1.2.1
  unfold wp_Mo_take
  refine ⟨hm, M_isItem h hS (fun z => ⟨fun y => absurd rfl y, fun _ => ?_⟩) (fun i i1 i2' hx => ⟨fun _ => ?_, fun y => absurd y (by decide)⟩)⟩
  · unfold wb_Mo_take_14 wb_Mo_take_42
    exact ⟨m, rfl, hm, hm, fun _ => ⟨hm, fun y => absurd y (cd_1 w m), fun _ => h1 z _ (PM_code h FX.rfl 1)⟩, fun y => absurd y (cd_1e w m)⟩
  · have p0 := PM_code h FX.rfl 0
    have i61 : i < 61 := by omega
    have c : (nI i).toNatClampNeg = i := nI_clamp (by omega)
    unfold wb_Mo_take_14
    refine ⟨m, rfl, hm, hm, fun y => absurd (cd_e w m 0) y, fun _ => ?_⟩
    generalize sI w m 0 0 = u at p0 ⊢
    have v13 := p0.1.2.2.2.1 13 (by unfold isInt; decide) i i61
    rw [hx, c]
    refine ldA p0.1.1 13 (n := 61) rfl (by decide) rfl rfl i61 ?_
    rw [v13]
    unfold wb_Mo_take_39 wb_Mo_take_42
    refine ⟨fun z => ⟨m, rfl, p0.1.1.1, p0.1.1.1, fun _ => ?_, fun y => absurd (by rw [cd_e]; decide) y⟩, fun z => ⟨m, rfl, p0.1.1.1, p0.1.1.1, fun y => absurd y (by rw [cd_e]; decide), fun _ => h3 i i1 i2' hx z _ (PM_code p0.1 p0.2.1 2)⟩⟩
    have p1 := PM_code p0.1 p0.2.1 0
    generalize sI u m 0 0 = u1 at p1 ⊢
    obtain ⟨b, p, hp⟩ := on_row hS i1 i2' z
    have hi := in_row hS (List.mem_of_getElem? hp)
    refine M_leave p1.1 hi.2.2.2.2.2.2.1 i61 hi.2.2.2.2.1 hp (nodup_first (hS.2.2.2.1 b) hp) (okS_R hS) (fun w4 R4 F4 => ⟨R4.1.1, ldA R4.1 13 (n := 61) rfl (by decide) rfl rfl i61 ?_⟩)
    rw [c]
    exact h0 i b p hp hx _ (PM_fm p1 (F4.ar (by decide) (isM_ne h.1 (by decide)) i 2) (RM_um R4 (by unfold isInt; decide) 2))
theorem N_divert {x1 x2 : Int32} {Q : Int32 → Wd → Prop} (h : RM S w m A) (hS : okS S) (h1 : ¬ (∃ i, 1 ≤ i ∧ i ≤ nT S ∧ x1 = nI i) → ∀ w', PM m A S 1 w w' → Q 0 w') (h2 : (∃ i, 1 ≤ i ∧ i ≤ nT S ∧ x1 = nI i) → ¬ rng x2 0 1 → ∀ w', PM m A S 2 w w' → Q 0 w') (h3 : ∀ i, 1 ≤ i → i ≤ nT S → x1 = nI i → rng x2 0 1 → ¬ mm S 13 i = 0 → ∀ w', PM m A S 3 w w' → Q 0 w')
    (h0 : ∀ i, 1 ≤ i → i ≤ nT S → x1 = nI i → rng x2 0 1 → mm S 13 i = 0 → ∀ w', PM m A (um (um S 17 i x2) 18 i 1) 0 w w' → Q (if mm S 18 i = 0 then 1 else 2) w') : wp_Mo_divert e0 mi m x1 x2 w Q := by
  have hm := h.1.1
  have hT := hS.1.2.1
  have T : ∀ c, ¬ c ≤ (0 : Int32) → ¬ c = 0 → Q 0 (sI w m 0 c) → wb_Mo_divert_27 e0 mi Q m x1 x2 (some m) c w := fun c hc hc0 hq => by
    unfold wb_Mo_divert_27 wb_Mo_divert_55
    exact ⟨m, rfl, hm, hm, fun _ => ⟨hm, fun y => absurd y (by rw [cd_e]; exact hc), fun _ => hq⟩, fun y => absurd y (by rw [cd_e]; exact hc0)⟩
  unfold wp_Mo_divert
  refine ⟨hm, M_isItem h hS (fun z => ⟨fun y => absurd rfl y, fun _ => T 1 (by decide) (by decide) (h1 z _ (PM_code h FX.rfl 1))⟩) (fun i i1 i2' hx => ⟨fun _ => mo_in (fun z => ⟨fun _ => ?_, fun y => absurd y (by decide)⟩) (fun z => ⟨fun y => absurd rfl y, fun _ => T 2 (by decide) (by decide) (h2 ⟨i, i1, i2', hx⟩ z _ (PM_code h FX.rfl 2))⟩), fun y => absurd y (by decide)⟩)⟩
  have p0 := PM_code h FX.rfl 0
  have i61 : i < 61 := by omega
  have c : (nI i).toNatClampNeg = i := nI_clamp (by omega)
  have nb1 : vp_nar .boolean (1 : Int32) = 1 := by rfl
  unfold wb_Mo_divert_27
  refine ⟨m, rfl, hm, hm, fun y => absurd (cd_e w m 0) y, fun _ => ?_⟩
  generalize sI w m 0 0 = u at p0 ⊢
  have v13 := p0.1.2.2.2.1 13 (by unfold isInt; decide) i i61
  rw [hx, c]
  refine ldA p0.1.1 13 (n := 61) rfl (by decide) rfl rfl i61 ?_
  rw [v13]
  unfold wb_Mo_divert_52 wb_Mo_divert_55 wb_Mo_divert_94
  refine ⟨fun z3 => ⟨m, rfl, p0.1.1.1, p0.1.1.1, fun _ => ?_, fun y => absurd (by rw [cd_e]; decide) y⟩, fun z3 => ⟨m, rfl, p0.1.1.1, p0.1.1.1, fun y => absurd y (by rw [cd_e]; decide), fun _ => h3 i i1 i2' hx z z3 _ (PM_code p0.1 p0.2.1 3)⟩⟩
  have p1 := PM_code p0.1 p0.2.1 0
  generalize sI u m 0 0 = u1 at p1 ⊢
  have v18 := p1.1.2.2.2.1 18 (by unfold isInt; decide) i i61
  rw [c, nb1]
  refine ldA p1.1.1 18 (n := 61) rfl (by decide) rfl rfl i61 (fun i6 e6 => ldA p1.1.1 17 (n := 61) rfl (by decide) rfl rfl i61 ?_)
  rw [v18] at e6
  have R1 := RM_um p1.1 (k := 17) (i := i) (by unfold isInt; decide) x2
  have F1 := (FM.rfl (m := m) (A := A) (w := u1)).ar (k := 17) (by decide) (isM_ne h.1 (by decide)) i x2
  refine ldA R1.1 18 (n := 61) rfl (by decide) rfl rfl i61 ?_
  have hq := h0 i i1 i2' hx z z3 _ (PM_fm p1 (F1.ar (by decide) (isM_ne h.1 (by decide)) i 1) (RM_um R1 (k := 18) (i := i) (by unfold isInt; decide) 1))
  subst e6
  refine ⟨fun y => ?_, fun y => ?_⟩
  · rw [if_pos y] at hq; exact hq
  · rw [if_neg y] at hq; exact hq
theorem N_belt {x1 x2 : Int32} {Q : Int32 → Wd → Prop} (h : RM S w m A) (hS : okS S) (h1 : ¬ (rng x1 1 10000 ∧ rng x2 0 1000) → ∀ w', PM m A S 1 w w' → Q 0 w') (h2 : rng x1 1 10000 ∧ rng x2 0 1000 → nB S = 8 → ∀ w', PM m A S 2 w w' → Q 0 w')
    (h0 : rng x1 1 10000 ∧ rng x2 0 1000 → nB S < 8 → ∀ w', PM m A (beltS S x1 x2) 0 w w' → Q (nI (nB S)) w') : wp_Mo_belt e0 mi m x1 x2 w Q := by
  refine M_belt h.1 h.2.2.1.1 hS.1.1 (fun z => h1 z _ (PM_code h FX.rfl 1)) (fun z z2 => h2 z z2 _ (PM_code h FX.rfl 2)) (fun z z2 => h0 z z2 _ ?_)
  have p0 := PM_code h FX.rfl 0
  have ne : ∀ k, 0 < mKd k → A k ≠ m := fun k hk => isM_ne h.1 hk
  generalize sI w m 0 0 = u0 at p0 ⊢
  have R1 := RM_um p0.1 (k := 4) (i := nB S) (by unfold isInt; decide) x1
  have R2 := RM_um R1 (k := 5) (i := nB S) (by unfold isInt; decide) x2
  have R3 := RM_um R2 (k := 6) (i := nB S) (by unfold isInt; decide) 1
  have R4 := RM_um R3 (k := 7) (i := 2 * nB S) (by unfold isInt; decide) (-1)
  have R5 := RM_um R4 (k := 7) (i := 2 * nB S + 1) (by unfold isInt; decide) (-1)
  have R6 := RM_nB R5 (nB S + 1)
  exact PM_fm p0 ((((((FM.rfl.ar (by decide) (ne 4 (by decide)) _ _).ar (by decide) (ne 5 (by decide)) _ _).ar (by decide) (ne 6 (by decide)) _ _).ar (by decide) (ne 7 (by decide)) _ _).ar (by decide) (ne 7 (by decide)) _ _).sc (by decide) _) R6
end MO
