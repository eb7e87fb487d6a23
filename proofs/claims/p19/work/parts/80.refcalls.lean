section
/-! CALLS OF THE REFERENCE over the state -/
def FX (m : Nat) (A : Nat → Nat) (w w' : Wd) : Prop := (wL w' = wL w ∧ wK w' = wK w ∧ wR w' = wR w ∧ wN w' = wN w) ∧ ∀ b, b ≠ m → (∀ k, 0 < mKd k → b ≠ A k) → wI w' b = wI w b ∧ wJ w' b = wJ w b
theorem FX.rfl {m : Nat} {A : Nat → Nat} {w : Wd} : FX m A w w := ⟨⟨Eq.refl _, Eq.refl _, Eq.refl _, Eq.refl _⟩, fun _ _ _ => ⟨Eq.refl _, Eq.refl _⟩⟩
theorem FX.code {m : Nat} {A : Nat → Nat} {w w' : Wd} (h : FX m A w w') (v : Int32) : FX m A w (sI w' m 0 v) := by
  refine ⟨h.1, fun b hb hj => ⟨?_, (h.2 b hb hj).2⟩⟩
  rw [← (h.2 b hb hj).1]; funext j; rw [pI_I, if_neg (fun z => hb z.1)]
theorem FX.fm {m : Nat} {A : Nat → Nat} {w w1 w2 : Wd} (h : FX m A w w1) (h2 : FM m A w1 w2) : FX m A w w2 :=
  ⟨⟨h2.1.1.trans h.1.1, h2.1.2.1.trans h.1.2.1, h2.1.2.2.1.trans h.1.2.2.1, h2.1.2.2.2.trans h.1.2.2.2⟩, fun b hb hk => ⟨(h2.2.2 b hb hk).1.trans (h.2 b hb hk).1, (h2.2.2 b hb hk).2.trans (h.2 b hb hk).2⟩⟩
/-- behind a call of the reference: it holds S', it tells the number c of what it threw -/
def PM (m : Nat) (A : Nat → Nat) (S' : St) (c : Int32) (w w' : Wd) : Prop := RM S' w' m A ∧ FX m A w w' ∧ wI w' m 0 = c
theorem PM_code {m : Nat} {A : Nat → Nat} {S : St} {w w1 : Wd} (h : RM S w1 m A) (hf : FX m A w w1) (c : Int32) : PM m A S c w (sI w1 m 0 c) := ⟨RM_code h c, hf.code c, cd_e w1 m c⟩
theorem PM_fm {m : Nat} {A : Nat → Nat} {S S' : St} {c : Int32} {w w1 w2 : Wd} (h : PM m A S c w w1) (h2 : FM m A w1 w2) (hR : RM S' w2 m A) : PM m A S' c w w2 := ⟨hR, h.2.1.fm h2, h2.2.1.trans h.2.2⟩
section MO
variable {e0 mi m : Nat} {A : Nat → Nat} {S : St} {w : Wd}
theorem N_gaps {x1 : Int32} {Q : Wd → Prop} (h : RM S w m A) (h1 : ¬ rng x1 0 1000 → ∀ w', PM m A S 1 w w' → Q w') (h0 : rng x1 0 1000 → ∀ w', PM m A (um S 2 0 x1) 0 w w' → Q w') : wp_Mo_gaps e0 mi m x1 w Q := by
  have p0 := PM_code h FX.rfl 0
  exact eM_gaps h.1.1 (fun z => h0 z _ (PM_fm p0 (FM.rfl.sc (by decide) _) (RM_gap p0.1 x1))) (fun z => h1 z _ (PM_code h FX.rfl 1))
theorem N_run {x1 x2 x3 : Int32} {Q : Wd → Prop} (h : RM S w m A) (hS : okS S) (hb3 : bw_b x3) (h1 : ¬ (∃ b, b < nB S ∧ x1 = nI b) → ∀ w', PM m A S 1 w w' → Q w') (h2 : (∃ b, b < nB S ∧ x1 = nI b) → ¬ rng x2 0 1000 → ∀ w', PM m A S 2 w w' → Q w')
    (h0 : ∀ b, b < nB S → x1 = nI b → rng x2 0 1000 → ∀ w', PM m A (um (um S 5 b x2) 6 b x3) 0 w w' → Q w') : wp_Mo_run e0 mi m x1 x2 x3 w Q := by
  have hm := h.1.1
  have hb8 := hS.1.1
  have T : ∀ c, ¬ c ≤ (0 : Int32) → Q (sI w m 0 c) → wb_Mo_run_29 e0 mi Q m x1 x2 x3 (some m) c w := fun c hc hq => by
    unfold wb_Mo_run_29
    exact ⟨m, rfl, hm, hm, fun y => absurd y (by rw [cd_e]; exact hc), fun _ => hq⟩
  unfold wp_Mo_run
  refine ⟨hm, M_isBelt h hS (fun z => ⟨fun y => absurd rfl y, fun _ => T 1 (by decide) (h1 z _ (PM_code h FX.rfl 1))⟩) (fun b hb hx => ⟨fun _ => mo_in (fun z => ⟨fun _ => ?_, fun y => absurd y (by decide)⟩) (fun z => ⟨fun y => absurd rfl y, fun _ => T 2 (by decide) (h2 ⟨b, hb, hx⟩ z _ (PM_code h FX.rfl 2))⟩), fun y => absurd y (by decide)⟩)⟩
  have p0 := PM_code h FX.rfl 0
  have c : (nI b).toNatClampNeg = b := nI_clamp (by omega)
  have hn3 : vp_nar .boolean x3 = x3 := by rcases hb3 with u | u <;> subst u <;> rfl
  unfold wb_Mo_run_29
  refine ⟨m, rfl, hm, hm, fun _ => ?_, fun y => absurd (by rw [cd_e]; decide) y⟩
  rw [hn3, hx, c]
  generalize sI w m 0 0 = u0 at p0 ⊢
  refine ldA p0.1.1 5 (n := 8) rfl (by decide) rfl rfl (by omega) ?_
  have R1 := RM_um p0.1 (k := 5) (i := b) (by unfold isInt; decide) x2
  have F1 := (FM.rfl (m := m) (A := A) (w := u0)).ar (k := 5) (by decide) (isM_ne h.1 (by decide)) b x2
  refine ldA R1.1 6 (n := 8) rfl (by decide) rfl rfl (by omega) ?_
  exact h0 b hb hx z _ (PM_fm p0 (F1.ar (by decide) (isM_ne h.1 (by decide)) b x3) (RM_um R1 (by unfold isInt; decide) x3))
theorem N_order {x1 : Int32} {Q : Int32 → Wd → Prop} (h : RM S w m A) (hl : (gos S).length ≤ 60) (h1 : ¬ (∃ j, j < (gos S).length ∧ x1 = nI j) → ∀ w', PM m A S 1 w w' → Q 0 w') (h0 : ∀ j i, (gos S)[j]? = some i → x1 = nI j → ∀ w', PM m A S 0 w w' → Q (nI i) w') : wp_Mo_order e0 mi m x1 w Q := by
  have hm := h.1.1
  unfold wp_Mo_order wb_Mo_order_20 wb_Mo_order_40
  have l29 : wI w m 29 = nI (gos S).length := h.2.2.1.2.2.2.2.2
  rw [l29]
  have key : rng x1 0 (nI (gos S).length - 1) ↔ ∃ b, b < (gos S).length ∧ x1 = nI b := by
    have e : (nI (gos S).length - 1).toInt = ((gos S).length : Int) - 1 := pk_sub_toInt (a := (gos S).length) (b := 1) (by omega) (by omega)
    have e0' : (0 : Int32).toInt = 0 := by decide
    unfold rng
    rw [Int32.lt_iff_toInt_lt, Int32.lt_iff_toInt_lt, e, e0']
    constructor
    · intro z
      rcases ix_cases x1 (n := (gos S).length) (by omega) with y | ⟨-, y⟩
      · exact y
      · exfalso
        rw [Int32.lt_iff_toInt_lt, Int32.lt_iff_toInt_lt, nI_toInt (by omega), e0'] at y
        omega
    · intro ⟨b, hb, hx⟩
      rw [hx, nI_toInt (by omega)]
      omega
  refine ⟨hm, mo_in (fun z => ⟨fun y => absurd y (by decide), fun _ => ⟨m, rfl, hm, hm, fun _ => ?_, fun y => absurd (by rw [cd_e]; decide) y⟩⟩) (fun z => ⟨fun _ => ⟨m, rfl, hm, hm, fun y => absurd y (cd_1 w m), fun _ => h1 (fun y => z (key.mpr y)) _ (PM_code h FX.rfl 1)⟩, fun y => absurd rfl y⟩)⟩
  obtain ⟨j, hj, hx⟩ := key.mp z
  have p0 := PM_code h FX.rfl 0
  have hy : (gos S)[j]? = some (gos S)[j] := List.getElem?_eq_getElem hj
  have hq := h0 j _ hy hx _ p0
  generalize sI w m 0 0 = u0 at p0 hq ⊢
  refine ldA p0.1.1 31 (n := 60) rfl (by decide) rfl hx (by omega) ?_
  rw [hx, nI_clamp (by omega), p0.1.2.2.2.2.2.2.2 j _ hy]
  exact hq
theorem N_mean {Q : Int32 → Wd → Prop} (h : RM S w m A) (hl : (gos S).length ≤ 60) (h1 : (gos S).length = 0 → ∀ w', PM m A S 1 w w' → Q 0 w') (h0 : ¬ (gos S).length = 0 → ∀ w', PM m A S 0 w w' → Q (mm S 30 0 / nI (gos S).length) w') : wp_Mo_mean e0 mi m w Q := by
  have hm := h.1.1
  unfold wp_Mo_mean wb_Mo_mean_13 wb_Mo_mean_36
  have l29 : wI w m 29 = nI (gos S).length := h.2.2.1.2.2.2.2.2
  have key : nI (gos S).length = 0 ↔ (gos S).length = 0 := ⟨fun z => (nI_eq (b := 0) (by omega) (by omega)).mp z, fun z => by rw [z]; rfl⟩
  rw [l29]
  refine ⟨hm, fun z => ⟨m, rfl, hm, hm, fun _ => ?_, fun y => absurd (by rw [cd_e]; decide) y⟩, fun z => ⟨m, rfl, hm, hm, fun y => absurd y (cd_1 w m), fun _ => h1 (key.mp z) _ (PM_code h FX.rfl 1)⟩⟩
  have p0 := PM_code h FX.rfl 0
  have l29' : wI (sI w m 0 0) m 29 = nI (gos S).length := p0.1.2.2.1.2.2.2.2.2
  have l30 : wI (sI w m 0 0) m 30 = mm S 30 0 := p0.1.2.1.2.2
  rw [l29', l30]
  exact ⟨z, h0 (fun y => z (key.mpr y)) _ p0⟩
theorem M_cnt : ∀ (n k : Nat) {x1 : Int32} {Q : Int32 → Wd → Prop}, RM S w m A → okS S → k + n = nB S → (¬ x1 = 2 → Q (-1) w) → (x1 = 2 → Q (nI (cntS S (nB S))) w) → wb_Mo_count_80 e0 mi Q (n + 1) m x1 (nI (cntS S k)) (nI k) w
  | 0, k, x1, Q, h, hS, hk, h1, h0 => by
    have hb8 := hS.1.1
    have : k = nB S := by omega
    subst this
    unfold wb_Mo_count_80 wb_Mo_count_113
    have l3 : wI w m 3 = nI (nB S) := h.2.2.1.1
    rw [l3]
    exact ⟨h.1.1, fun _ => ⟨h1, h0⟩, fun z => absurd (nI_le (Nat.le_refl _) (by omega)) z⟩
  | n + 1, k, x1, Q, h, hS, hk, h1, h0 => by
    have hb8 := hS.1.1
    unfold wb_Mo_count_80
    have l3 : wI w m 3 = nI (nB S) := h.2.2.1.1
    rw [l3]
    refine ⟨h.1.1, fun z => absurd z (nI_ge (by omega) (by omega)), fun _ => ldA h.1 10 (n := 8) rfl (by decide) rfl rfl (by omega) (fun i7 e7 i8 e8 => ?_)⟩
    rw [nI_clamp (by omega), (h.2.2.2.2.1 k (by omega)).1, nI_add] at e7
    rw [e7, e8, nI_1]
    exact M_cnt n (k + 1) h hS (by omega) h1 h0
theorem N_count {x1 : Int32} {Q : Int32 → Wd → Prop} (h : RM S w m A) (hS : okS S) (a0 : x1 = 0 → ∀ w', PM m A S 0 w w' → Q (nI (nB S)) w') (a1 : x1 = 1 → ∀ w', PM m A S 0 w w' → Q (nI (nT S)) w') (a2 : x1 = 2 → ∀ w', PM m A S 0 w w' → Q (nI (cntS S (nB S))) w') (a3 : x1 = 3 → ∀ w', PM m A S 0 w w' → Q (nI (gos S).length) w') (a4 : x1 = 4 → ∀ w', PM m A S 0 w w' → Q (nI (eds S).length) w') (a5 : x1 = 5 → ∀ w', PM m A S 0 w w' → Q (mm S 1 0) w') (a6 : x1 = 6 → ∀ w', PM m A S 0 w w' → Q (nI (nS S)) w') (a7 : x1 = 7 → ∀ w', PM m A S 0 w w' → Q (nI (wts S).length) w') (a8 : (x1.toInt < 0 ∨ 7 < x1.toInt) → ∀ w', PM m A S 0 w w' → Q (-1) w') : wp_Mo_count e0 mi m x1 w Q := by
  have hm := h.1.1
  have p0 := PM_code h FX.rfl 0
  unfold wp_Mo_count
  generalize sI w m 0 0 = u at p0 ⊢
  obtain ⟨g1, ⟨t1, t2, t30⟩, ⟨n3, n12, n21, n25, n27, n29⟩, -⟩ := p0.1
  rw [n25, n21, t1, n27, n29, n12, n3]
  refine ⟨hm, fun z0 => ⟨fun z1 => ⟨fun z3 => ⟨fun z4 => ⟨fun z5 => ⟨fun z6 => ⟨fun z7 => ⟨nB S + 1, M_cnt (nB S) 0 p0.1 hS (by omega) (fun z2 => a8 ?_ _ p0) (fun z => a2 z _ p0)⟩, fun z => a7 z _ p0⟩, fun z => a6 z _ p0⟩, fun z => a5 z _ p0⟩, fun z => a4 z _ p0⟩, fun z => a3 z _ p0⟩, fun z => a1 z _ p0⟩, fun z => a0 z _ p0⟩
  apply Decidable.byContradiction
  intro hn
  have e : ∀ (k : Int), x1.toInt = k → ∀ c : Int32, c.toInt = k → x1 = c := fun k h c hc => Int32.toInt_inj.mp (h.trans hc.symm)
  have hr : x1.toInt = 0 ∨ x1.toInt = 1 ∨ x1.toInt = 2 ∨ x1.toInt = 3 ∨ x1.toInt = 4 ∨ x1.toInt = 5 ∨ x1.toInt = 6 ∨ x1.toInt = 7 := by omega
  rcases hr with z | z | z | z | z | z | z | z
  · exact z0 (e _ z 0 (by decide))
  · exact z1 (e _ z 1 (by decide))
  · exact z2 (e _ z 2 (by decide))
  · exact z3 (e _ z 3 (by decide))
  · exact z4 (e _ z 4 (by decide))
  · exact z5 (e _ z 5 (by decide))
  · exact z6 (e _ z 6 (by decide))
  · exact z7 (e _ z 7 (by decide))
end MO
end
section
/-! CALLS OF THE REFERENCE: told, edge, divert, take, belt -/
theorem w7 (x : Int32) (P : Int32 → Prop) {n : Nat} (hn : n < 2 ^ 30) (h : rng x 0 (nI n)) : ∃ j, j ≤ n ∧ x = nI j := by
  rcases ix_cases x (n := n + 1) (by omega) with ⟨j, hj, hx⟩ | ⟨-, hz⟩
  · exact ⟨j, by omega, hx⟩
  · exfalso
    rcases hz with z | z
    · exact h.1 z
    · have h2 := h.2
      rw [Int32.lt_iff_toInt_lt] at h2 z
      rw [nI_toInt (show n < 2 ^ 31 by omega)] at h2
      rw [nI_toInt (show n + 1 < 2 ^ 31 by omega)] at z
      omega
theorem rng_out {x : Int32} {n : Nat} (hn : n < 2 ^ 31) : ¬ rng x 0 (nI n) ↔ (x.toInt < 0 ∨ (n : Int) < x.toInt) := by
  unfold rng
  rw [Int32.lt_iff_toInt_lt, Int32.lt_iff_toInt_lt, nI_toInt hn]
  have e0' : (0 : Int32).toInt = 0 := by decide
  rw [e0']
  omega
section MO
variable {e0 mi m : Nat} {A : Nat → Nat} {S : St} {w : Wd}
theorem N_told {x1 x2 : Int32} {Q : Int32 → Wd → Prop} (h : RM S w m A) (hS : okS S) (h1 : ¬ (∃ i, 1 ≤ i ∧ i ≤ nT S ∧ x1 = nI i) → ∀ w', PM m A S 1 w w' → Q 0 w')
    (h2 : (∃ i, 1 ≤ i ∧ i ≤ nT S ∧ x1 = nI i) → (x2.toInt < 0 ∨ 6 < x2.toInt) → ∀ w', PM m A S 2 w w' → Q 0 w')
    (h0 : ∀ i, 1 ≤ i → i ≤ nT S → x1 = nI i → ∀ w', PM m A S 0 w w' → (x2 = 0 → Q (mm S 13 i) w') ∧ (x2 = 1 → Q (mm S 14 i) w') ∧ (x2 = 2 → Q (if mm S 13 i = 0 then mm S 15 i else -1) w') ∧ (x2 = 3 → Q (mm S 16 i) w') ∧ (x2 = 4 → Q (mm S 17 i) w') ∧ (x2 = 5 → Q (if mm S 13 i = 0 then mm S 19 i else -1) w') ∧ (x2 = 6 → Q (mm S 20 i) w')) : wp_Mo_told e0 mi m x1 x2 w Q := by
  have hm := h.1.1
  have hT := hS.1.2.1
  have T : ∀ c, ¬ c ≤ (0 : Int32) → Q 0 (sI w m 0 c) → wb_Mo_told_28 e0 mi Q m x1 x2 (some m) c w := fun c hc hq => by
    unfold wb_Mo_told_28
    exact ⟨m, rfl, hm, hm, fun y => absurd y (by rw [cd_e]; exact hc), fun _ => hq⟩
  unfold wp_Mo_told
  refine ⟨hm, M_isItem h hS (fun z => ⟨fun y => absurd rfl y, fun _ => T 1 (by decide) (h1 z _ (PM_code h FX.rfl 1))⟩) (fun i i1 i2' hx => ⟨fun _ => mo_in (fun z => ⟨fun _ => ?_, fun y => absurd y (by decide)⟩) (fun z => ⟨fun y => absurd rfl y, fun _ => T 2 (by decide) (h2 ⟨i, i1, i2', hx⟩ ((rng_out (n := 6) (by decide)).mp z) _ (PM_code h FX.rfl 2))⟩), fun y => absurd y (by decide)⟩)⟩
  have p0 := PM_code h FX.rfl 0
  obtain ⟨a0, a1, a2, a3, a4, a5, a6⟩ := h0 i i1 i2' hx _ p0
  have i61 : i < 61 := by omega
  have c : (nI i).toNatClampNeg = i := nI_clamp (by omega)
  unfold wb_Mo_told_28 wb_Mo_told_87 wb_Mo_told_145
  refine ⟨m, rfl, hm, hm, fun _ => ?_, fun y => absurd (by rw [cd_e]; decide) y⟩
  generalize sI w m 0 0 = u at p0 a0 a1 a2 a3 a4 a5 a6 ⊢
  have g := p0.1.2.2.2.1
  have v13 := g 13 (by unfold isInt; decide) i i61
  have v14 := g 14 (by unfold isInt; decide) i i61
  have v15 := g 15 (by unfold isInt; decide) i i61
  have v16 := g 16 (by unfold isInt; decide) i i61
  have v17 := g 17 (by unfold isInt; decide) i i61
  have v19 := g 19 (by unfold isInt; decide) i i61
  have v20 := g 20 (by unfold isInt; decide) i i61
  obtain ⟨j, hj, hx2⟩ := w7 x2 (fun _ => True) (n := 6) (by decide) z
  rw [hx, c]
  refine ⟨fun n0 => ⟨fun n1 => ⟨fun n2 => ⟨fun n3 => ⟨fun n4 => ⟨fun n5 => ldA p0.1.1 20 (n := 61) rfl (by decide) rfl rfl i61 ?_, fun y => ldA p0.1.1 13 (n := 61) rfl (by decide) rfl rfl i61 ?_⟩, fun y => ldA p0.1.1 17 (n := 61) rfl (by decide) rfl rfl i61 ?_⟩, fun y => ldA p0.1.1 16 (n := 61) rfl (by decide) rfl rfl i61 ?_⟩, fun y => ldA p0.1.1 13 (n := 61) rfl (by decide) rfl rfl i61 ?_⟩, fun y => ldA p0.1.1 14 (n := 61) rfl (by decide) rfl rfl i61 ?_⟩, fun y => ldA p0.1.1 13 (n := 61) rfl (by decide) rfl rfl i61 ?_⟩
  · rw [v20]
    have : x2 = 6 := by
      rw [hx2] at n0 n1 n2 n3 n4 n5 ⊢
      have : j = 0 ∨ j = 1 ∨ j = 2 ∨ j = 3 ∨ j = 4 ∨ j = 5 ∨ j = 6 := by omega
      rcases this with u | u | u | u | u | u | u <;> subst u
      · exact absurd rfl n0
      · exact absurd rfl n1
      · exact absurd rfl n2
      · exact absurd rfl n3
      · exact absurd rfl n4
      · exact absurd rfl n5
      · rfl
    exact a6 this
  · rw [v13]
    refine ⟨fun z3 => ?_, fun z3 => ldA p0.1.1 19 (n := 61) rfl (by decide) rfl rfl i61 ?_⟩
    · have := a5 y; rw [if_neg z3] at this; exact this
    · have := a5 y; rw [if_pos z3] at this; rw [v19]; exact this
  · rw [v17]; exact a4 y
  · rw [v16]; exact a3 y
  · rw [v13]
    refine ⟨fun z3 => ?_, fun z3 => ldA p0.1.1 15 (n := 61) rfl (by decide) rfl rfl i61 ?_⟩
    · have := a2 y; rw [if_neg z3] at this; exact this
    · have := a2 y; rw [if_pos z3] at this; rw [v15]; exact this
  · rw [v14]; exact a1 y
  · rw [v13]; exact a0 y
theorem N_take {x1 : Int32} {Q : Wd → Prop} (h : RM S w m A) (hS : okS S) (h1 : ¬ (∃ i, 1 ≤ i ∧ i ≤ nT S ∧ x1 = nI i) → ∀ w', PM m A S 1 w w' → Q w') (h3 : ∀ i, 1 ≤ i → i ≤ nT S → x1 = nI i → ¬ mm S 13 i = 0 → ∀ w', PM m A S 2 w w' → Q w')
    (h0 : ∀ i b p, (rr S b)[p]? = some i → x1 = nI i → ∀ w', PM m A (um (ur S b ((rr S b).eraseIdx p)) 13 i 2) 0 w w' → Q w') : wp_Mo_take e0 mi m x1 w Q := by
  have hm := h.1.1
  have hT := hS.1.2.1
  unfold wp_Mo_take
  refine ⟨hm, M_isItem h hS (fun z => ⟨fun y => absurd rfl y, fun _ => ?_⟩) (fun i i1 i2' hx => ⟨fun _ => ?_, fun y => absurd y (by decide)⟩)⟩
  · unfold wb_Mo_take_14 wb_Mo_take_42
    exact ⟨m, rfl, hm, hm, fun _ => ⟨hm, fun y => absurd y (cd_1 w m), fun _ => h1 z _ (PM_code h FX.rfl 1)⟩, fun y => absurd y (cd_1e w m)⟩
  · have p0 := PM_code h FX.rfl 0
    have i61 : i < 61 := by omega
    have c : (nI i).toNatClampNeg = i := nI_clamp (by omega)
    unfold wb_Mo_take_14
    refine ⟨m, rfl, hm, hm, fun y => absurd (cd_e w m 0) y, fun _ => ?_⟩
    generalize sI w m 0 0 = u at p0 ⊢
    have v13 := p0.1.2.2.2.1 13 (by unfold isInt; decide) i i61
    rw [hx, c]
    refine ldA p0.1.1 13 (n := 61) rfl (by decide) rfl rfl i61 ?_
    rw [v13]
    unfold wb_Mo_take_39 wb_Mo_take_42
    refine ⟨fun z => ⟨m, rfl, p0.1.1.1, p0.1.1.1, fun _ => ?_, fun y => absurd (by rw [cd_e]; decide) y⟩, fun z => ⟨m, rfl, p0.1.1.1, p0.1.1.1, fun y => absurd y (by rw [cd_e]; decide), fun _ => h3 i i1 i2' hx z _ (PM_code p0.1 p0.2.1 2)⟩⟩
    have p1 := PM_code p0.1 p0.2.1 0
    generalize sI u m 0 0 = u1 at p1 ⊢
    obtain ⟨b, p, hp⟩ := on_row hS i1 i2' z
    have hi := in_row hS (List.mem_of_getElem? hp)
    refine M_leave p1.1 hi.2.2.2.2.2.2.1 i61 hi.2.2.2.2.1 hp (nodup_first (hS.2.2.2.1 b) hp) (okS_R hS) (fun w4 R4 F4 => ⟨R4.1.1, ldA R4.1 13 (n := 61) rfl (by decide) rfl rfl i61 ?_⟩)
    rw [c]
    exact h0 i b p hp hx _ (PM_fm p1 (F4.ar (by decide) (isM_ne h.1 (by decide)) i 2) (RM_um R4 (by unfold isInt; decide) 2))
theorem N_divert {x1 x2 : Int32} {Q : Int32 → Wd → Prop} (h : RM S w m A) (hS : okS S) (h1 : ¬ (∃ i, 1 ≤ i ∧ i ≤ nT S ∧ x1 = nI i) → ∀ w', PM m A S 1 w w' → Q 0 w') (h2 : (∃ i, 1 ≤ i ∧ i ≤ nT S ∧ x1 = nI i) → ¬ rng x2 0 1 → ∀ w', PM m A S 2 w w' → Q 0 w') (h3 : ∀ i, 1 ≤ i → i ≤ nT S → x1 = nI i → rng x2 0 1 → ¬ mm S 13 i = 0 → ∀ w', PM m A S 3 w w' → Q 0 w')
    (h0 : ∀ i, 1 ≤ i → i ≤ nT S → x1 = nI i → rng x2 0 1 → mm S 13 i = 0 → ∀ w', PM m A (um (um S 17 i x2) 18 i 1) 0 w w' → Q (if mm S 18 i = 0 then 1 else 2) w') : wp_Mo_divert e0 mi m x1 x2 w Q := by
  have hm := h.1.1
  have hT := hS.1.2.1
  have T : ∀ c, ¬ c ≤ (0 : Int32) → ¬ c = 0 → Q 0 (sI w m 0 c) → wb_Mo_divert_27 e0 mi Q m x1 x2 (some m) c w := fun c hc hc0 hq => by
    unfold wb_Mo_divert_27 wb_Mo_divert_55
    exact ⟨m, rfl, hm, hm, fun _ => ⟨hm, fun y => absurd y (by rw [cd_e]; exact hc), fun _ => hq⟩, fun y => absurd y (by rw [cd_e]; exact hc0)⟩
  unfold wp_Mo_divert
  refine ⟨hm, M_isItem h hS (fun z => ⟨fun y => absurd rfl y, fun _ => T 1 (by decide) (by decide) (h1 z _ (PM_code h FX.rfl 1))⟩) (fun i i1 i2' hx => ⟨fun _ => mo_in (fun z => ⟨fun _ => ?_, fun y => absurd y (by decide)⟩) (fun z => ⟨fun y => absurd rfl y, fun _ => T 2 (by decide) (by decide) (h2 ⟨i, i1, i2', hx⟩ z _ (PM_code h FX.rfl 2))⟩), fun y => absurd y (by decide)⟩)⟩
  have p0 := PM_code h FX.rfl 0
  have i61 : i < 61 := by omega
  have c : (nI i).toNatClampNeg = i := nI_clamp (by omega)
  have nb1 : vp_nar .boolean (1 : Int32) = 1 := by rfl
  unfold wb_Mo_divert_27
  refine ⟨m, rfl, hm, hm, fun y => absurd (cd_e w m 0) y, fun _ => ?_⟩
  generalize sI w m 0 0 = u at p0 ⊢
  have v13 := p0.1.2.2.2.1 13 (by unfold isInt; decide) i i61
  rw [hx, c]
  refine ldA p0.1.1 13 (n := 61) rfl (by decide) rfl rfl i61 ?_
  rw [v13]
  unfold wb_Mo_divert_52 wb_Mo_divert_55 wb_Mo_divert_94
  refine ⟨fun z3 => ⟨m, rfl, p0.1.1.1, p0.1.1.1, fun _ => ?_, fun y => absurd (by rw [cd_e]; decide) y⟩, fun z3 => ⟨m, rfl, p0.1.1.1, p0.1.1.1, fun y => absurd y (by rw [cd_e]; decide), fun _ => h3 i i1 i2' hx z z3 _ (PM_code p0.1 p0.2.1 3)⟩⟩
  have p1 := PM_code p0.1 p0.2.1 0
  generalize sI u m 0 0 = u1 at p1 ⊢
  have v18 := p1.1.2.2.2.1 18 (by unfold isInt; decide) i i61
  rw [c, nb1]
  refine ldA p1.1.1 18 (n := 61) rfl (by decide) rfl rfl i61 (fun i6 e6 => ldA p1.1.1 17 (n := 61) rfl (by decide) rfl rfl i61 ?_)
  rw [v18] at e6
  have R1 := RM_um p1.1 (k := 17) (i := i) (by unfold isInt; decide) x2
  have F1 := (FM.rfl (m := m) (A := A) (w := u1)).ar (k := 17) (by decide) (isM_ne h.1 (by decide)) i x2
  refine ldA R1.1 18 (n := 61) rfl (by decide) rfl rfl i61 ?_
  have hq := h0 i i1 i2' hx z z3 _ (PM_fm p1 (F1.ar (by decide) (isM_ne h.1 (by decide)) i 1) (RM_um R1 (k := 18) (i := i) (by unfold isInt; decide) 1))
  subst e6
  refine ⟨fun y => ?_, fun y => ?_⟩
  · rw [if_pos y] at hq; exact hq
  · rw [if_neg y] at hq; exact hq
theorem N_belt {x1 x2 : Int32} {Q : Int32 → Wd → Prop} (h : RM S w m A) (hS : okS S) (h1 : ¬ (rng x1 1 10000 ∧ rng x2 0 1000) → ∀ w', PM m A S 1 w w' → Q 0 w') (h2 : rng x1 1 10000 ∧ rng x2 0 1000 → nB S = 8 → ∀ w', PM m A S 2 w w' → Q 0 w')
    (h0 : rng x1 1 10000 ∧ rng x2 0 1000 → nB S < 8 → ∀ w', PM m A (beltS S x1 x2) 0 w w' → Q (nI (nB S)) w') : wp_Mo_belt e0 mi m x1 x2 w Q := by
  refine M_belt h.1 h.2.2.1.1 hS.1.1 (fun z => h1 z _ (PM_code h FX.rfl 1)) (fun z z2 => h2 z z2 _ (PM_code h FX.rfl 2)) (fun z z2 => h0 z z2 _ ?_)
  have p0 := PM_code h FX.rfl 0
  have ne : ∀ k, 0 < mKd k → A k ≠ m := fun k hk => isM_ne h.1 hk
  generalize sI w m 0 0 = u0 at p0 ⊢
  have R1 := RM_um p0.1 (k := 4) (i := nB S) (by unfold isInt; decide) x1
  have R2 := RM_um R1 (k := 5) (i := nB S) (by unfold isInt; decide) x2
  have R3 := RM_um R2 (k := 6) (i := nB S) (by unfold isInt; decide) 1
  have R4 := RM_um R3 (k := 7) (i := 2 * nB S) (by unfold isInt; decide) (-1)
  have R5 := RM_um R4 (k := 7) (i := 2 * nB S + 1) (by unfold isInt; decide) (-1)
  have R6 := RM_nB R5 (nB S + 1)
  exact PM_fm p0 ((((((FM.rfl.ar (by decide) (ne 4 (by decide)) _ _).ar (by decide) (ne 5 (by decide)) _ _).ar (by decide) (ne 6 (by decide)) _ _).ar (by decide) (ne 7 (by decide)) _ _).ar (by decide) (ne 7 (by decide)) _ _).sc (by decide) _) R6
end MO
end
section
/-! CALLS OF THE REFERENCE: edge, known, scanner, step -/
section MO
variable {e0 mi m : Nat} {A : Nat → Nat} {S : St} {w : Wd}
theorem N_edge {x1 x2 : Int32} {Q : Int32 → Wd → Prop} (h : RM S w m A) (hS : okS S) (hl : (eds S).length < 5000) (h1 : ¬ (∃ j, j < (eds S).length ∧ x1 = nI j) → ∀ w', PM m A S 1 w w' → Q 0 w')
    (h2 : (∃ j, j < (eds S).length ∧ x1 = nI j) → (x2.toInt < 0 ∨ 3 < x2.toInt) → ∀ w', PM m A S 2 w w' → Q 0 w')
    (h0 : ∀ j e, (eds S)[j]? = some e → x1 = nI j → ∀ w', PM m A S 0 w w' → (x2 = 0 → Q e.1 w') ∧ (x2 = 1 → Q (nI e.2.1) w') ∧ (x2 = 2 → Q (nI e.2.2.1) w') ∧ (x2 = 3 → Q (nI e.2.2.2) w')) : wp_Mo_edge e0 mi m x1 x2 w Q := by
  have hm := h.1.1
  have T : ∀ c, ¬ c ≤ (0 : Int32) → Q 0 (sI w m 0 c) → wb_Mo_edge_33 e0 mi Q m x1 x2 (some m) c w := fun c hc hq => by
    unfold wb_Mo_edge_33
    exact ⟨m, rfl, hm, hm, fun y => absurd y (by rw [cd_e]; exact hc), fun _ => hq⟩
  unfold wp_Mo_edge
  have l27 : wI w m 27 = nI (eds S).length := h.2.2.1.2.2.2.2.1
  rw [l27]
  have key : rng x1 0 (nI (eds S).length - 1) ↔ ∃ b, b < (eds S).length ∧ x1 = nI b := by
    have e : (nI (eds S).length - 1).toInt = ((eds S).length : Int) - 1 := pk_sub_toInt (a := (eds S).length) (b := 1) (by omega) (by omega)
    have e0' : (0 : Int32).toInt = 0 := by decide
    unfold rng
    rw [Int32.lt_iff_toInt_lt, Int32.lt_iff_toInt_lt, e, e0']
    constructor
    · intro z
      rcases ix_cases x1 (n := (eds S).length) (by omega) with y | ⟨-, y⟩
      · exact y
      · exfalso
        rw [Int32.lt_iff_toInt_lt, Int32.lt_iff_toInt_lt, nI_toInt (by omega), e0'] at y
        omega
    · intro ⟨b, hb, hx⟩
      rw [hx, nI_toInt (by omega)]
      omega
  refine ⟨hm, mo_in (fun z => ⟨fun _ => mo_in (fun z2 => ⟨fun _ => ?_, fun y => absurd y (by decide)⟩) (fun z2 => ⟨fun y => absurd rfl y, fun _ => T 2 (by decide) (h2 (key.mp z) ((rng_out (n := 3) (by decide)).mp z2) _ (PM_code h FX.rfl 2))⟩), fun y => absurd y (by decide)⟩) (fun z => ⟨fun y => absurd rfl y, fun _ => T 1 (by decide) (h1 (fun y => z (key.mpr y)) _ (PM_code h FX.rfl 1))⟩)⟩
  obtain ⟨j, hj, hx⟩ := key.mp z
  have p0 := PM_code h FX.rfl 0
  have hy : (eds S)[j]? = some (eds S)[j] := List.getElem?_eq_getElem hj
  obtain ⟨a0, a1, a2, a3⟩ := h0 j _ hy hx _ p0
  have hok := hS.2.2.2.2.2.2.2.2.2 _ (List.mem_of_getElem? hy)
  have vj := p0.1.2.2.2.2.2.2.1 j _ hy
  generalize (eds S)[j] = ee at vj hok a0 a1 a2 a3
  obtain ⟨t, kd, i, o⟩ := ee
  obtain ⟨k3, k60, k8⟩ := hok
  replace k3 : kd < 3 := k3
  replace k60 : i ≤ 60 := k60
  replace k8 : o < 8 := k8
  have c : (nI j).toNatClampNeg = j := nI_clamp (by omega)
  obtain ⟨y2, hy2, hx2⟩ := w7 x2 (fun _ => True) (n := 3) (by decide) z2
  unfold wb_Mo_edge_33 wb_Mo_edge_113
  refine ⟨m, rfl, hm, hm, fun _ => ?_, fun y => absurd (by rw [cd_e]; decide) y⟩
  generalize sI w m 0 0 = u at p0 vj a0 a1 a2 a3 ⊢
  rw [hx, c]
  refine ⟨fun n0 => ⟨fun n1 => ⟨fun n2 => ldA p0.1.1 28 (n := 6000) rfl (by decide) rfl rfl (by omega) ?_, fun y => ldA p0.1.1 28 (n := 6000) rfl (by decide) rfl rfl (by omega) ?_⟩, fun y => ldA p0.1.1 28 (n := 6000) rfl (by decide) rfl rfl (by omega) ?_⟩, fun y => ldA p0.1.1 28 (n := 6000) rfl (by decide) rfl rfl (by omega) ?_⟩
  · rw [vj, pk_where t k3 k60 k8]
    have : x2 = 3 := by
      rw [hx2] at n0 n1 n2 ⊢
      have : y2 = 0 ∨ y2 = 1 ∨ y2 = 2 ∨ y2 = 3 := by omega
      rcases this with u | u | u | u <;> subst u
      · exact absurd rfl n0
      · exact absurd rfl n1
      · exact absurd rfl n2
      · rfl
    exact a3 this
  · rw [vj, pk_item t k3 k60 k8]; exact a2 y
  · rw [vj, pk_kind t k3 k60 k8]; exact a1 y
  · rw [vj, pk_time t k3 k60 k8]; exact a0 y
theorem N_known {x1 x2 : Int32} {Q : Int32 → Wd → Prop} (h : RM S w m A) (hS : okS S) (h1 : ¬ (∃ b, b < nB S ∧ x1 = nI b) → ∀ w', PM m A S 1 w w' → Q 0 w')
    (h2 : (∃ b, b < nB S ∧ x1 = nI b) → (x2.toInt < 0 ∨ 8 < x2.toInt) → ∀ w', PM m A S 2 w w' → Q 0 w')
    (h0 : ∀ b, b < nB S → x1 = nI b → ∀ w', PM m A S 0 w w' → (x2 = 0 → Q (mm S 4 b) w') ∧ (x2 = 1 → Q (mm S 5 b) w') ∧ (x2 = 2 → Q (if mm S 6 b = 0 then 0 else 1) w') ∧ (x2 = 3 → Q (nI (rr S b).length) w') ∧ (x2 = 4 → Q (enc ((rr S b)[0]?)) w') ∧ (x2 = 5 → Q (mm S 7 (2 * b)) w') ∧ (x2 = 6 → Q (mm S 7 (2 * b + 1)) w') ∧ (x2 = 7 → Q (mm S 9 (2 * b)) w') ∧ (x2 = 8 → Q (mm S 9 (2 * b + 1)) w')) : wp_Mo_known e0 mi m x1 x2 w Q := by
  have hm := h.1.1
  have hb8 := hS.1.1
  have T : ∀ c, ¬ c ≤ (0 : Int32) → Q 0 (sI w m 0 c) → wb_Mo_known_28 e0 mi Q m x1 x2 (some m) c w := fun c hc hq => by
    unfold wb_Mo_known_28
    exact ⟨m, rfl, hm, hm, fun y => absurd y (by rw [cd_e]; exact hc), fun _ => hq⟩
  unfold wp_Mo_known
  refine ⟨hm, M_isBelt h hS (fun z => ⟨fun y => absurd rfl y, fun _ => T 1 (by decide) (h1 z _ (PM_code h FX.rfl 1))⟩) (fun b hb hx => ⟨fun _ => mo_in (fun z => ⟨fun _ => ?_, fun y => absurd y (by decide)⟩) (fun z => ⟨fun y => absurd rfl y, fun _ => T 2 (by decide) (h2 ⟨b, hb, hx⟩ ((rng_out (n := 8) (by decide)).mp z) _ (PM_code h FX.rfl 2))⟩), fun y => absurd y (by decide)⟩)⟩
  have p0 := PM_code h FX.rfl 0
  obtain ⟨a0, a1, a2, a3, a4, a5, a6, a7, a8⟩ := h0 b hb hx _ p0
  have b8 : b < 8 := by omega
  have c : (nI b).toNatClampNeg = b := nI_clamp (by omega)
  obtain ⟨y2, hy2, hx2⟩ := w7 x2 (fun _ => True) (n := 8) (by decide) z
  unfold wb_Mo_known_28 wb_Mo_known_82 wb_Mo_known_122 wb_Mo_known_157
  refine ⟨m, rfl, hm, hm, fun _ => ?_, fun y => absurd (by rw [cd_e]; decide) y⟩
  generalize sI w m 0 0 = u at p0 a0 a1 a2 a3 a4 a5 a6 a7 a8 ⊢
  have g := p0.1.2.2.2.1
  have s10 := (p0.1.2.2.2.2.1 b b8).1
  have hlen := (okS_R hS b b8).1
  rw [hx, c, i60', hx2]
  refine ⟨fun n0 => ⟨fun n1 => ⟨fun n2 => ⟨fun n3 => ⟨fun n4 => ⟨fun q7 => ?_, fun q7 => ?_⟩, fun y => ldA p0.1.1 10 (n := 8) rfl (by decide) rfl rfl b8 ?_⟩, fun y => ldA p0.1.1 10 (n := 8) rfl (by decide) rfl rfl b8 ?_⟩, fun y => ldA p0.1.1 6 (n := 8) rfl (by decide) rfl rfl b8 ?_⟩, fun y => ldA p0.1.1 5 (n := 8) rfl (by decide) rfl rfl b8 ?_⟩, fun y => ldA p0.1.1 4 (n := 8) rfl (by decide) rfl rfl b8 ?_⟩
  · have h7 : 7 ≤ y2 := by
      rcases Nat.lt_or_ge y2 7 with v | v
      · exact absurd q7 (nI_ge (b := 7) v (by omega))
      · exact v
    have e : ((2 : Int32) * nI b + nI y2) - 7 = nI (2 * b + (y2 - 7)) := by
      rw [i2, show (7 : Int32) = nI 7 from rfl, pk_sub (by omega)]
      congr 1; omega
    refine ldA p0.1.1 9 (n := 16) rfl (by decide) rfl e (by omega) ?_
    rw [e, nI_clamp (by omega), g 9 (by unfold isInt; decide) _ (show 2 * b + (y2 - 7) < 16 by omega)]
    have : y2 = 7 ∨ y2 = 8 := by omega
    rcases this with v | v
    · subst v; exact a7 hx2
    · subst v; exact a8 hx2
  · have h7 : y2 < 7 := by
      rcases Nat.lt_or_ge y2 7 with v | v
      · exact v
      · exact absurd (nI_le (a := 7) v (by omega)) q7
    have h5 : 5 ≤ y2 := by
      rcases Nat.lt_or_ge y2 5 with v | v
      · exfalso
        have : y2 = 0 ∨ y2 = 1 ∨ y2 = 2 ∨ y2 = 3 ∨ y2 = 4 := by omega
        rcases this with r | r | r | r | r <;> subst r
        · exact n0 rfl
        · exact n1 rfl
        · exact n2 rfl
        · exact n3 rfl
        · exact n4 rfl
      · exact v
    have e : ((2 : Int32) * nI b + nI y2) - 5 = nI (2 * b + (y2 - 5)) := by
      rw [i2, show (5 : Int32) = nI 5 from rfl, pk_sub (by omega)]
      congr 1; omega
    refine ldA p0.1.1 7 (n := 16) rfl (by decide) rfl e (by omega) ?_
    rw [e, nI_clamp (by omega), g 7 (by unfold isInt; decide) _ (show 2 * b + (y2 - 5) < 16 by omega)]
    have : y2 = 5 ∨ y2 = 6 := by omega
    rcases this with v | v
    · subst v; exact a5 hx2
    · subst v; exact a6 hx2
  · rw [s10]
    have := a4 (hx2.trans y)
    cases hf : rr S b with
    | nil =>
      rw [hf] at this
      exact ⟨fun v => absurd rfl v, fun _ => this⟩
    | cons i t =>
      have h0' : (rr S b)[0]? = some i := by rw [hf]; rfl
      have v0 := (p0.1.2.2.2.2.1 b b8).2 0 i h0'
      rw [hf] at this hlen
      refine ⟨fun _ => ldA p0.1.1 11 (n := 480) rfl (by decide) rfl rfl (by omega) ?_, fun v => absurd v (nI_ne0 (by simp) (by omega))⟩
      rw [nI_clamp (by omega), show 60 * b = 60 * b + 0 from rfl, v0]
      exact this
  · rw [s10]; exact a3 (hx2.trans y)
  · rw [g 6 (by unfold isInt; decide) b b8]
    have := a2 (hx2.trans y)
    refine ⟨fun v => ?_, fun v => ?_⟩
    · rw [if_pos v] at this; exact this
    · rw [if_neg v] at this; exact this
  · rw [g 5 (by unfold isInt; decide) b b8]; exact a1 (hx2.trans y)
  · rw [g 4 (by unfold isInt; decide) b b8]; exact a0 (hx2.trans y)
theorem N_step {x1 : Int32} {Q : Int32 → Wd → Prop} (h : RM S w m A) (hS : okS S) (hphi : Phi S < 2900) (h1 : ¬ rng x1 0 100 → ∀ w', PM m A S 1 w w' → Q 0 w')
    (h0 : ∀ k, k ≤ 100 → x1 = nI k → ∀ w', PM m A (stepsS S k) 0 w w' → Q (nI (eds (stepsS S k)).length - nI (eds S).length) w') : wp_Mo_step e0 mi m x1 w Q := by
  have p0 := PM_code h FX.rfl 0
  exact M_step h hS (fun z => h1 z _ (PM_code h FX.rfl 1)) (fun k _ _ => few_of_phi hS hphi k) (fun k hk hx w' R' F' => h0 k hk hx w' (PM_fm p0 F' R'))
end MO
end
section
/-! CALLS OF THE REFERENCE: scanner -/
section MO
variable {e0 mi m : Nat} {A : Nat → Nat} {S : St} {w : Wd}
theorem N_scanner {x1 x2 x3 : Int32} {Q : Int32 → Wd → Prop} (h : RM S w m A) (hS : okS S) (h1 : ¬ (∃ b, b < nB S ∧ x1 = nI b) → ∀ w', PM m A S 1 w w' → Q 0 w')
    (h2 : ∀ b, b < nB S → x1 = nI b → ¬ (rng x2 1 (mm S 4 b) ∧ rng x3 1 20) → ∀ w', PM m A S 2 w w' → Q 0 w') (h3 : ∀ b, b < nB S → x1 = nI b → rng x2 1 (mm S 4 b) ∧ rng x3 1 20 → nS S = 4 → ∀ w', PM m A S 3 w w' → Q 0 w')
    (h0 : ∀ b, b < nB S → x1 = nI b → rng x2 1 (mm S 4 b) ∧ rng x3 1 20 → nS S < 4 → ∀ w', PM m A (scanS S (nI b) x2 x3) 0 w w' → Q (nI (nS S)) w') : wp_Mo_scanner e0 mi m x1 x2 x3 w Q := by
  have hm := h.1.1
  have hb8 := hS.1.1
  have hs4 := hS.1.2.2
  have T : ∀ c, ¬ c ≤ (0 : Int32) → Q 0 (sI w m 0 c) → wb_Mo_scanner_68 e0 mi Q m x1 x2 x3 (some m) c w := fun c hc hq => by
    unfold wb_Mo_scanner_68
    exact ⟨m, rfl, hm, hm, fun y => absurd y (by rw [cd_e]; exact hc), fun _ => hq⟩
  unfold wp_Mo_scanner
  refine ⟨hm, M_isBelt h hS (fun z => ⟨fun y => absurd rfl y, fun _ => T 1 (by decide) (h1 z _ (PM_code h FX.rfl 1))⟩) (fun b hb hx => ⟨fun _ => ⟨hm, mo_in (fun _ => ⟨fun y => absurd y (by decide), fun _ => ?_⟩) (fun z => absurd ?_ z)⟩, fun y => absurd y (by decide)⟩)⟩
  · unfold wb_Mo_scanner_34 wb_Mo_scanner_51
    have b8 : b < 8 := by omega
    have c : (nI b).toNatClampNeg = b := nI_clamp (by omega)
    refine ldA h.1 4 (n := 8) rfl (by decide) rfl hx b8 ?_
    rw [hx, c, h.2.2.2.1 4 (by unfold isInt; decide) b b8, ← hx]
    have l21 : wI w m 21 = nI (nS S) := h.2.2.1.2.2.1
    have key : wI w m 21 = 4 ↔ nS S = 4 := by rw [l21]; exact nI_eq (b := 4) (by omega) (by omega)
    refine mo_in (fun za => ⟨fun y => absurd y (by decide), fun _ => mo_in (fun zb => ⟨fun _ => ⟨hm, fun z => ?_, fun z => T 3 (by decide) (h3 b hb hx ⟨za, zb⟩ (key.mp z) _ (PM_code h FX.rfl 3))⟩, fun y => absurd y (by decide)⟩) (fun zb => ⟨fun y => absurd rfl y, fun _ => T 2 (by decide) (h2 b hb hx (fun y => zb y.2) _ (PM_code h FX.rfl 2))⟩)⟩) (fun za => ⟨fun _ => T 2 (by decide) (h2 b hb hx (fun y => za y.1) _ (PM_code h FX.rfl 2)), fun y => absurd rfl y⟩)
    have n4 : nS S < 4 := by
      have : ¬ nS S = 4 := fun y => z (key.mpr y)
      omega
    have p0 := PM_code h FX.rfl 0
    have hq := h0 b hb hx ⟨za, zb⟩ n4
    rw [← hx] at hq
    unfold wb_Mo_scanner_68
    refine ⟨m, rfl, hm, hm, fun _ => ?_, fun y => absurd (by rw [cd_e]; decide) y⟩
    generalize sI w m 0 0 = u0 at p0 ⊢
    have ne : ∀ k, 0 < mKd k → A k ≠ m := fun k hk => isM_ne h.1 hk
    have R1 := RM_um p0.1 (k := 22) (i := nS S) (by unfold isInt; decide) x1
    have R2 := RM_um R1 (k := 23) (i := nS S) (by unfold isInt; decide) x2
    have R3 := RM_um R2 (k := 24) (i := nS S) (by unfold isInt; decide) x3
    have R4 := RM_nS R3 (nS S + 1)
    have e0' : wI u0 m 21 = nI (nS S) := p0.1.2.2.1.2.2.1
    have e1 : wI (sI u0 (A 22) (nS S) x1) m 21 = nI (nS S) := R1.2.2.1.2.2.1
    have e2 : wI (sI (sI u0 (A 22) (nS S) x1) (A 23) (nS S) x2) m 21 = nI (nS S) := R2.2.2.1.2.2.1
    have e3 : wI (sI (sI (sI u0 (A 22) (nS S) x1) (A 23) (nS S) x2) (A 24) (nS S) x3) m 21 = nI (nS S) := R3.2.2.1.2.2.1
    have cs : (nI (nS S)).toNatClampNeg = nS S := nI_clamp (by omega)
    have FF := (((FM.rfl (m := m) (A := A) (w := u0)).ar (k := 22) (by decide) (ne 22 (by decide)) (nS S) x1).ar (k := 23) (by decide) (ne 23 (by decide)) (nS S) x2).ar (k := 24) (by decide) (ne 24 (by decide)) (nS S) x3
    have R4' : RM (scanS S x1 x2 x3) (sI (sI (sI (sI u0 (A 22) (nS S) x1) (A 23) (nS S) x2) (A 24) (nS S) x3) m 21 (nI (nS S + 1))) m A := R4
    have hq2 := hq _ (PM_fm p0 (FF.sc (s := 21) (by decide) (nI (nS S + 1))) R4')
    rw [e0', cs]
    refine ldA p0.1.1 22 (n := 4) rfl (by decide) rfl rfl n4 ?_
    rw [e1, cs]
    refine ldA R1.1 23 (n := 4) rfl (by decide) rfl rfl n4 ?_
    rw [e2, cs]
    refine ldA R2.1 24 (n := 4) rfl (by decide) rfl rfl n4 ?_
    rw [e3, pI_I, if_pos ⟨rfl, rfl⟩, nI_1]
    have e5 : nI (nS S + 1) - 1 = nI (nS S) := by
      rw [show (1 : Int32) = nI 1 from rfl, pk_sub (by omega)]; rfl
    rw [e5]
    exact hq2
  · rw [hx]
    exact ⟨fun y => absurd y (by rw [Int32.lt_iff_toInt_lt, nI_toInt (by omega), show (0 : Int32).toInt = 0 from by decide]; omega), fun y => absurd y (by rw [Int32.lt_iff_toInt_lt, nI_toInt (by omega), show (7 : Int32).toInt = 7 from by decide]; omega)⟩
theorem N_item {x1 x2 : Int32} {Q : Int32 → Wd → Prop} (h : RM S w m A) (hS : okS S) (h1 : ¬ (∃ b, b < nB S ∧ x1 = nI b) → ∀ w', PM m A S 1 w w' → Q 0 w')
    (h2 : (∃ b, b < nB S ∧ x1 = nI b) → ¬ rng x2 1 2000 → ∀ w', PM m A S 2 w w' → Q 0 w') (h3 : (∃ b, b < nB S ∧ x1 = nI b) → rng x2 1 2000 → nT S = 60 → ∀ w', PM m A S 3 w w' → Q 0 w')
    (h4 : ∀ b, b < nB S → x1 = nI b → rng x2 1 2000 → nT S < 60 → (0 : Int32) < missS S b → ∀ w', PM m A S 0 w w' → Q (-(missS S b)) w')
    (h0 : ∀ b, b < nB S → x1 = nI b → rng x2 1 2000 → nT S < 60 → ¬ (0 : Int32) < missS S b → ∀ w', PM m A (itemS S b x2) 0 w w' → Q (nI (nT S + 1)) w') : wp_Mo_item e0 mi m x1 x2 w Q := by
  have hm := h.1.1
  have hb8 := hS.1.1
  have hT := hS.1.2.1
  have T : ∀ c, ¬ c ≤ (0 : Int32) → Q 0 (sI w m 0 c) → wb_Mo_item_42 e0 mi Q m x1 x2 (some m) c w := fun c hc hq => by
    unfold wb_Mo_item_42
    exact ⟨m, rfl, hm, hm, fun y => absurd y (by rw [cd_e]; exact hc), fun _ => hq⟩
  have l12 : wI w m 12 = nI (nT S) := h.2.2.1.2.1
  have key : wI w m 12 = 60 ↔ nT S = 60 := by rw [l12]; exact nI_eq (b := 60) (by omega) (by omega)
  unfold wp_Mo_item
  refine ⟨hm, M_isBelt h hS (fun z => ⟨fun y => absurd rfl y, fun _ => T 1 (by decide) (h1 z _ (PM_code h FX.rfl 1))⟩) (fun b hb hx => ⟨fun _ => mo_in (fun zb => ⟨fun _ => ⟨hm, fun z => ?_, fun z => T 3 (by decide) (h3 ⟨b, hb, hx⟩ zb (key.mp z) _ (PM_code h FX.rfl 3))⟩, fun y => absurd y (by decide)⟩) (fun zb => ⟨fun y => absurd rfl y, fun _ => T 2 (by decide) (h2 ⟨b, hb, hx⟩ zb _ (PM_code h FX.rfl 2))⟩), fun y => absurd y (by decide)⟩)⟩
  have b8 : b < 8 := by omega
  have n6 : nT S < 60 := by
    have : ¬ nT S = 60 := fun y => z (key.mpr y)
    omega
  have p0 := PM_code h FX.rfl 0
  have hr := okS_R hS
  have hq := h0 b hb hx zb n6
  have hq4 := h4 b hb hx zb n6
  unfold wb_Mo_item_42
  refine ⟨m, rfl, hm, hm, fun _ => ?_, fun y => absurd (by rw [cd_e]; decide) y⟩
  generalize sI w m 0 0 = u0 at p0 ⊢
  rw [hx]
  refine M_missing p0.1 b8 hr ⟨fun z1 => ⟨p0.1.1.1, ?_⟩, fun z1 => ⟨p0.1.1.1, M_missing p0.1 b8 hr (hq4 (Int32.not_le.mp z1) _ p0)⟩⟩
  have hq := hq (Int32.not_lt.mpr z1)
  have e0' : wI u0 m 12 = nI (nT S) := p0.1.2.2.1.2.1
  rw [e0', nI_1]
  have ne : ∀ k, 0 < mKd k → A k ≠ m := fun k hk => isM_ne h.1 hk
  have cs : (nI (nT S + 1)).toNatClampNeg = nT S + 1 := nI_clamp (by omega)
  have R0 := RM_nT p0.1 (nT S + 1)
  have R1 := RM_um R0 (k := 16) (i := nT S + 1) (by unfold isInt; decide) x2
  have R2 := RM_um R1 (k := 13) (i := nT S + 1) (by unfold isInt; decide) 0
  have R3 := RM_um R2 (k := 20) (i := nT S + 1) (by unfold isInt; decide) (mm S 1 0)
  have F3 := ((((FM.rfl (m := m) (A := A) (w := u0)).sc (s := 12) (by decide) (nI (nT S + 1))).ar (k := 16) (by decide) (ne 16 (by decide)) (nT S + 1) x2).ar (k := 13) (by decide) (ne 13 (by decide)) (nT S + 1) 0).ar (k := 20) (by decide) (ne 20 (by decide)) (nT S + 1) (mm S 1 0)
  have a0 : wI (sI u0 m 12 (nI (nT S + 1))) m 12 = nI (nT S + 1) := R0.2.2.1.2.1
  rw [a0, cs]
  refine ldA R0.1 16 (n := 61) rfl (by decide) rfl rfl (by omega) ?_
  have a1 : wI (sI (sI u0 m 12 (nI (nT S + 1))) (A 16) (nT S + 1) x2) m 12 = nI (nT S + 1) := R1.2.2.1.2.1
  rw [a1, cs]
  refine ldA R1.1 13 (n := 61) rfl (by decide) rfl rfl (by omega) ?_
  have a2 : wI (sI (sI (sI u0 m 12 (nI (nT S + 1))) (A 16) (nT S + 1) x2) (A 13) (nT S + 1) 0) m 12 = nI (nT S + 1) := R2.2.2.1.2.1
  have t2 : wI (sI (sI (sI u0 m 12 (nI (nT S + 1))) (A 16) (nT S + 1) x2) (A 13) (nT S + 1) 0) m 1 = mm S 1 0 := R2.2.1.1
  rw [a2, t2, cs]
  refine ldA R2.1 20 (n := 61) rfl (by decide) rfl rfl (by omega) ?_
  have a3 : wI (sI (sI (sI (sI u0 m 12 (nI (nT S + 1))) (A 16) (nT S + 1) x2) (A 13) (nT S + 1) 0) (A 20) (nT S + 1) (mm S 1 0)) m 12 = nI (nT S + 1) := R3.2.2.1.2.1
  rw [a3]
  have R4 : RM (item1 S x2) _ m A := R3
  refine M_come R4 b8 (by omega) ?_ ?_ (fun w' R' F' => ?_)
  · have hle : (rr S b).length ≤ nT S := nodup_le (nT S) _ (hS.2.2.2.1 b) (fun i hi => ⟨(hS.2.2.1 b i hi).1, (hS.2.2.1 b i hi).2.1⟩)
    show (rr S b).length < 60
    omega
  · exact hr
  · have l : wI w' m 12 = nI (nT S + 1) := R'.2.2.1.2.1
    rw [l]
    exact ⟨R'.1.1, hq _ (PM_fm p0 (F3.trans F') R')⟩
end MO
end
section
/-! CALLS OF THE REFERENCE: slip -/
section MO
variable {e0 mi m : Nat} {A : Nat → Nat} {S : St} {w : Wd}
theorem N_slip {x1 x2 : Int32} {Q : Int32 → Wd → Prop} (h : RM S w m A) (hS : okS S) (h1 : ¬ (∃ i, 1 ≤ i ∧ i ≤ nT S ∧ x1 = nI i) → ∀ w', PM m A S 1 w w' → Q 0 w') (h2 : (∃ i, 1 ≤ i ∧ i ≤ nT S ∧ x1 = nI i) → ¬ rng x2 1 1000 → ∀ w', PM m A S 2 w w' → Q 0 w')
    (h3 : ∀ i, 1 ≤ i → i ≤ nT S → x1 = nI i → rng x2 1 1000 → ¬ mm S 13 i = 0 → ∀ w', PM m A S 3 w w' → Q 0 w')
    (h4 : ∀ i b p, (rr S b)[p]? = some i → x1 = nI i → rng x2 1 1000 → ¬ (x2 ≤ mm S 15 i ∧ slipOk S b p i x2) → ∀ w', PM m A S 3 w w' → Q 0 w')
    (h0 : ∀ i b p, (rr S b)[p]? = some i → x1 = nI i → rng x2 1 1000 → x2 ≤ mm S 15 i → slipOk S b p i x2 → ∀ w', PM m A (um S 15 i (mm S 15 i - x2)) 0 w w' → Q (mm S 15 i - x2) w') : wp_Mo_slip e0 mi m x1 x2 w Q := by
  have hm := h.1.1
  have hT := hS.1.2.1
  have T : ∀ c, ¬ c ≤ (0 : Int32) → ¬ c = 0 → Q 0 (sI w m 0 c) → wb_Mo_slip_29 e0 mi Q m x1 x2 (some m) c w := fun c hc hc0 hq => by
    unfold wb_Mo_slip_29 wb_Mo_slip_67
    exact ⟨m, rfl, hm, hm, fun _ => ⟨hm, fun y => absurd y (by rw [cd_e]; exact hc), fun _ => hq⟩, fun y => absurd y (by rw [cd_e]; exact hc0)⟩
  unfold wp_Mo_slip
  refine ⟨hm, M_isItem h hS (fun z => ⟨fun y => absurd rfl y, fun _ => T 1 (by decide) (by decide) (h1 z _ (PM_code h FX.rfl 1))⟩) (fun i i1 i2' hx => ⟨fun _ => mo_in (fun z => ⟨fun _ => ?_, fun y => absurd y (by decide)⟩) (fun z => ⟨fun y => absurd rfl y, fun _ => T 2 (by decide) (by decide) (h2 ⟨i, i1, i2', hx⟩ z _ (PM_code h FX.rfl 2))⟩), fun y => absurd y (by decide)⟩)⟩
  have p0 := PM_code h FX.rfl 0
  have i61 : i < 61 := by omega
  have c : (nI i).toNatClampNeg = i := nI_clamp (by omega)
  have T3 : ∀ u, PM m A S 0 w u → (∀ w', PM m A S 3 w w' → Q 0 w') → wb_Mo_slip_67 e0 mi Q m (nI i) x2 (sI u m 0 3) := fun u pu hq => by
    unfold wb_Mo_slip_67
    exact ⟨pu.1.1.1, fun y => absurd y (by rw [cd_e]; decide), fun _ => hq _ (PM_code pu.1 pu.2.1 3)⟩
  unfold wb_Mo_slip_29
  refine ⟨m, rfl, hm, hm, fun y => absurd (cd_e w m 0) y, fun _ => ?_⟩
  generalize sI w m 0 0 = u at p0 ⊢
  have v13 := p0.1.2.2.2.1 13 (by unfold isInt; decide) i i61
  have v15 := p0.1.2.2.2.1 15 (by unfold isInt; decide) i i61
  rw [hx, c]
  refine ldA p0.1.1 13 (n := 61) rfl (by decide) rfl rfl i61 ?_
  rw [v13]
  unfold wb_Mo_slip_59 wb_Mo_slip_64
  refine ⟨fun z2 => ⟨m, rfl, p0.1.1.1, T3 u p0 (h3 i i1 i2' hx z z2)⟩, fun z2 => ldA p0.1.1 15 (n := 61) rfl (by decide) rfl rfl i61 ?_⟩
  rw [v15]
  obtain ⟨b, p, hp⟩ := on_row hS i1 i2' z2
  have hi := in_row hS (List.mem_of_getElem? hp)
  have b8 : b < 8 := hi.2.2.2.2.2.2.1
  refine ⟨fun z3 => ⟨m, rfl, p0.1.1.1, ?_⟩, fun z3 => ⟨m, rfl, p0.1.1.1, T3 u p0 (h4 i b p hp hx z (fun y => z3 y.1))⟩⟩
  have p1 := PM_code p0.1 p0.2.1 0
  generalize sI u m 0 0 = u1 at p1 ⊢
  have g := p1.1.2.2.2.1
  have w15 := g 15 (by unfold isInt; decide) i i61
  have w14 := g 14 (by unfold isInt; decide) i i61
  rw [hi.2.2.2.2.1] at w14
  have T140 : ∀ k, slipOk S b p i x2 → wb_Mo_slip_140 e0 mi Q m (nI i) x2 k u1 := fun k hok => by
    unfold wb_Mo_slip_140
    obtain ⟨a, ha, ib, hv, ea⟩ := ldA p1.1.1 15 (P := fun a => a = A 15) (n := 61) rfl (by decide) rfl rfl i61 rfl
    subst ea
    refine ⟨p1.1.1.1, fun _ => ⟨A 15, ha, ib, hv, hv, ?_⟩, fun y => absurd (by rw [p1.2.2]; decide) y⟩
    have R1 := RM_um p1.1 (k := 15) (i := i) (by unfold isInt; decide) (mm S 15 i - x2)
    rw [c, w15]
    refine ldA R1.1 15 (n := 61) rfl (by decide) rfl rfl i61 ?_
    rw [pI_I, if_pos ⟨rfl, rfl⟩]
    exact h0 i b p hp hx z z3 hok _ (PM_fm p1 (FM.rfl.ar (by decide) (isM_ne h.1 (by decide)) i _) R1)
  unfold wb_Mo_slip_67
  refine ⟨p1.1.1.1, fun _ => ?_, fun y => absurd (by rw [p1.2.2]; decide) y⟩
  refine M_indexOf p1.1 b8 i61 hi.2.2.2.2.1 hp (nodup_first (hS.2.2.2.1 b) hp) (okS_R hS) (fun i10 e10 => ?_)
  rw [nI_1] at e10
  subst e10
  have cb : (nI b).toNatClampNeg = b := nI_clamp (by omega)
  have hlen := (okS_R hS b b8).1
  have hpl := (List.getElem?_eq_some_iff.mp hp).1
  have s10 := (p1.1.2.2.2.2.1 b b8).1
  refine ⟨p1.1.1.1, ldA p1.1.1 14 (n := 61) rfl (by decide) rfl rfl i61 ?_⟩
  rw [c, w14, cb]
  refine ldA p1.1.1 10 (n := 8) rfl (by decide) rfl rfl b8 ?_
  rw [s10]
  refine ⟨fun z4 => T140 _ (fun j hj => ?_), fun z4 => M_rear p1.1 i61 ⟨p1.1.1.1, ldA p1.1.1 14 (n := 61) rfl (by decide) rfl rfl i61 ?_⟩⟩
  · exfalso
    have := (List.getElem?_eq_some_iff.mp hj).1
    exact nI_ge this (by omega) z4
  · have hlt : p + 1 < (rr S b).length := by
      rcases Nat.lt_or_ge (p + 1) (rr S b).length with y | y
      · exact y
      · exact absurd (nI_le y (by omega)) z4
    have hn : (rr S b)[p + 1]? = some (rr S b)[p + 1] := List.getElem?_eq_getElem hlt
    have v11 := (p1.1.2.2.2.2.1 b b8).2 (p + 1) _ hn
    have hj := in_row hS (List.mem_of_getElem? hn)
    generalize (rr S b)[p + 1] = j at hn v11 hj
    have j61 : j < 61 := by omega
    have cj : (nI j).toNatClampNeg = j := nI_clamp (by omega)
    rw [w14, i60', nI_add]
    refine ldA p1.1.1 11 (n := 480) rfl (by decide) rfl rfl (by omega) ?_
    rw [nI_clamp (by omega), v11, cj]
    refine ldA p1.1.1 15 (n := 61) rfl (by decide) rfl rfl j61 ?_
    have t2 : wI u1 m 2 = mm S 2 0 := p1.1.2.1.2.1
    rw [t2, g 15 (by unfold isInt; decide) j j61]
    refine ⟨fun y => T140 _ (fun k hk => ?_), fun y => ?_⟩
    · rw [hn] at hk
      cases hk
      exact y
    · unfold wb_Mo_slip_140
      exact ⟨p1.1.1.1, fun y => absurd y (by rw [cd_e]; decide), fun _ => h4 i b p hp hx z (fun v => y (v.2 j hn)) _ (PM_code p1.1 p1.2.1 3)⟩
end MO
end
section
/-! CALLS OF THE REFERENCE: gap -/
section MO
variable {e0 mi m : Nat} {A : Nat → Nat} {S : St} {w : Wd}
theorem N_gap {x1 x2 : Int32} {Q : Int32 → Wd → Prop} (h : RM S w m A) (hS : okS S) (h1 : ¬ ((∃ i, 1 ≤ i ∧ i ≤ nT S ∧ x1 = nI i) ∧ (∃ i, 1 ≤ i ∧ i ≤ nT S ∧ x2 = nI i)) → ∀ w', PM m A S 1 w w' → Q 0 w')
    (h2 : ∀ i j, 1 ≤ i → i ≤ nT S → x1 = nI i → 1 ≤ j → j ≤ nT S → x2 = nI j → ¬ (mm S 13 i = 0 ∧ mm S 13 j = 0 ∧ ¬ i = j ∧ mm S 14 i = mm S 14 j) → ∀ w', PM m A S 2 w w' → Q 0 w')
    (h0 : ∀ i j, 1 ≤ i → i ≤ nT S → x1 = nI i → 1 ≤ j → j ≤ nT S → x2 = nI j → mm S 13 i = 0 → mm S 13 j = 0 → ¬ i = j → mm S 14 i = mm S 14 j → ∀ b p p2 : Nat, (rr S b)[p]? = some i → (rr S b)[p2]? = some j → ∀ w', PM m A S 0 w w' → Q (if p2 ≤ p then rearS S j - mm S 15 i else rearS S i - mm S 15 j) w') : wp_Mo_gap e0 mi m x1 x2 w Q := by
  have hm := h.1.1
  have hT := hS.1.2.1
  have T17 : Q 0 (sI w m 0 1) → wb_Mo_gap_17 e0 mi Q m x1 x2 (some m) w := fun hq => by
    unfold wb_Mo_gap_17 wb_Mo_gap_22 wb_Mo_gap_79
    exact ⟨m, rfl, hm, hm, fun _ => ⟨hm, fun y => absurd y (cd_1 w m), fun _ => hq⟩, fun y => absurd y (cd_1e w m)⟩
  unfold wp_Mo_gap
  refine ⟨hm, M_isItem h hS (fun z => ⟨fun _ => T17 (h1 (fun y => z y.1) _ (PM_code h FX.rfl 1)), fun y => absurd rfl y⟩) (fun i i1 i2' hx => ⟨fun y => absurd y (by decide), fun _ => ⟨hm, M_isItem h hS (fun z => ⟨fun y => absurd rfl y, fun _ => T17 (h1 (fun y => z y.2) _ (PM_code h FX.rfl 1))⟩) (fun j j1 j2 hy => ⟨fun _ => ?_, fun y => absurd y (by decide)⟩)⟩⟩)⟩
  have p0 := PM_code h FX.rfl 0
  have i61 : i < 61 := by omega
  have j61 : j < 61 := by omega
  have ci : (nI i).toNatClampNeg = i := nI_clamp (by omega)
  have cj : (nI j).toNatClampNeg = j := nI_clamp (by omega)
  have T71 : ∀ u, PM m A S 0 w u → ¬ (mm S 13 i = 0 ∧ mm S 13 j = 0 ∧ ¬ i = j ∧ mm S 14 i = mm S 14 j) → wb_Mo_gap_71 e0 mi Q m (nI i) (nI j) (some m) u := fun u pu hn => by
    unfold wb_Mo_gap_71 wb_Mo_gap_76 wb_Mo_gap_79
    exact ⟨m, rfl, pu.1.1.1, pu.1.1.1, fun y => absurd y (by rw [cd_e]; decide), fun _ => h2 i j i1 i2' hx j1 j2 hy hn _ (PM_code pu.1 pu.2.1 2)⟩
  unfold wb_Mo_gap_22
  refine ⟨m, rfl, hm, hm, fun y => absurd (cd_e w m 0) y, fun _ => ?_⟩
  generalize sI w m 0 0 = u at p0 ⊢
  have g := p0.1.2.2.2.1
  have vi13 := g 13 (by unfold isInt; decide) i i61
  have vj13 := g 13 (by unfold isInt; decide) j j61
  have vi14 := g 14 (by unfold isInt; decide) i i61
  have vj14 := g 14 (by unfold isInt; decide) j j61
  rw [hx, hy, ci, cj]
  obtain ⟨a, ha, ib, hv, ea⟩ := ldA p0.1.1 13 (P := fun a => a = A 13) (n := 61) rfl (by decide) rfl rfl j61 rfl
  subst ea
  refine ldA p0.1.1 13 (n := 61) rfl (by decide) rfl rfl i61 ?_
  rw [vi13, vj13]
  refine ⟨fun z => T71 u p0 (fun y => z y.1), fun z => ⟨hv, fun z2 => T71 u p0 (fun y => z2 y.2.1), fun z2 => ⟨fun z3 => T71 u p0 (fun y => y.2.2.1 ((nI_eq (by omega) (by omega)).mp z3)), fun z3 => ?_⟩⟩⟩
  have nij : ¬ i = j := fun y => z3 (by rw [y])
  obtain ⟨a, ha4, ib4, hv4, ea⟩ := ldA p0.1.1 14 (P := fun a => a = A 14) (n := 61) rfl (by decide) rfl rfl j61 rfl
  subst ea
  refine ldA p0.1.1 14 (n := 61) rfl (by decide) rfl rfl i61 ⟨hv4, ?_⟩
  rw [vi14, vj14]
  refine ⟨fun z4 => ?_, fun z4 => T71 u p0 (fun y => z4 y.2.2.2)⟩
  unfold wb_Mo_gap_76 wb_Mo_gap_79 wb_Mo_gap_128
  refine ⟨m, rfl, p0.1.1.1, p0.1.1.1, fun _ => ?_, fun y => absurd (by rw [cd_e]; decide) y⟩
  have p1 := PM_code p0.1 p0.2.1 0
  generalize sI u m 0 0 = u1 at p1 ⊢
  obtain ⟨b, p, hp⟩ := on_row hS i1 i2' z
  obtain ⟨b2, p2, hp2⟩ := on_row hS j1 j2 z2
  have hi := in_row hS (List.mem_of_getElem? hp)
  have hj := in_row hS (List.mem_of_getElem? hp2)
  have b8 : b < 8 := hi.2.2.2.2.2.2.1
  have b28 : b2 < 8 := hj.2.2.2.2.2.2.1
  have hbb : b2 = b := by
    have e := z4
    rw [hi.2.2.2.2.1, hj.2.2.2.2.1] at e
    exact ((nI_eq (by omega) (by omega)).mp e).symm
  subst hbb
  have hq := h0 i j i1 i2' hx j1 j2 hy z z2 nij z4 b2 p p2 hp hp2 _ p1
  have hlen := (okS_R hS b2 b8).1
  have hpl := (List.getElem?_eq_some_iff.mp hp).1
  have hpl2 := (List.getElem?_eq_some_iff.mp hp2).1
  have wi := p1.1.2.2.2.1 15 (by unfold isInt; decide) i i61
  have wj := p1.1.2.2.2.1 15 (by unfold isInt; decide) j j61
  refine M_indexOf p1.1 b8 i61 hi.2.2.2.2.1 hp (nodup_first (hS.2.2.2.1 b2) hp) (okS_R hS) ⟨p1.1.1.1, M_indexOf p1.1 b8 j61 hj.2.2.2.2.1 hp2 (nodup_first (hS.2.2.2.1 b2) hp2) (okS_R hS) ⟨fun q1 => ⟨p1.1.1.1, M_rear p1.1 j61 ⟨p1.1.1.1, ldA p1.1.1 15 (n := 61) rfl (by decide) rfl rfl i61 ?_⟩⟩, fun q1 => ⟨p1.1.1.1, M_rear p1.1 i61 ⟨p1.1.1.1, ldA p1.1.1 15 (n := 61) rfl (by decide) rfl rfl j61 ?_⟩⟩⟩⟩
  · rw [ci, wi]
    rcases Nat.lt_or_ge p p2 with y | y
    · exact absurd q1 (nI_ge y (by omega))
    · rw [if_pos y] at hq; exact hq
  · rw [cj, wj]
    rcases Nat.lt_or_ge p p2 with y | y
    · rw [if_neg (by omega)] at hq; exact hq
    · exact absurd (nI_le y (by omega)) q1
end MO
end
section
/-! CALLS OF THE REFERENCE: clean -/
def markL (S : St) : List Nat → St
  | [] => S
  | i :: t => markL (um S 13 i 2) t
theorem ur_ur (S : St) (b : Nat) (x y : List Nat) : ur (ur S b x) b y = ur S b y := by
  have : va_up (va_up (rr S) b x) b y = va_up (rr S) b y := by
    funext c; unfold va_up
    by_cases h : c = b <;> simp [h]
  unfold ur
  show (mm S, va_up (va_up (rr S) b x) b y, _) = _
  rw [this]; rfl
theorem ur_self (S : St) (b : Nat) : ur S b (rr S b) = S := by
  have : va_up (rr S) b (rr S b) = rr S := by
    funext c; unfold va_up
    by_cases h : c = b
    · subst h; simp
    · simp [h]
  unfold ur
  rw [this]; rfl
theorem um_ur (S : St) (b : Nat) (x : List Nat) (k i : Nat) (v : Int32) : um (ur S b x) k i v = ur (um S k i v) b x := rfl
theorem markL_ur : ∀ (l : List Nat) (S : St) (b : Nat) (x : List Nat), markL (ur S b x) l = ur (markL S l) b x
  | [], _, _, _ => rfl
  | i :: t, S, b, x => by
    unfold markL
    rw [um_ur]
    exact markL_ur t _ b x
theorem cleanN_eq : ∀ (l : List Nat) (S : St) (b : Nat), rr S b = l → cleanN S b l.length = ur (markL S l) b []
  | [], S, b, h => by
    show S = ur S b []
    rw [← h, ur_self]
  | i :: t, S, b, h => by
    have e : cleanN S b (t.length + 1) = cleanN (um (ur S b ((rr S b).eraseIdx 0)) 13 i 2) b t.length := by
      conv => lhs; unfold cleanN
      rw [h]
    show cleanN S b (t.length + 1) = _
    rw [e, cleanN_eq t _ b (by rw [rr_um, rr_ur, if_pos rfl, h]; rfl), um_ur, markL_ur, ur_ur]
    rfl
theorem rr_markL : ∀ (l : List Nat) (S : St), rr (markL S l) = rr S
  | [], _ => rfl
  | i :: t, S => by unfold markL; rw [rr_markL t]; rfl
theorem RM_clr {S : St} {w : Wd} {m : Nat} {A : Nat → Nat} (h : RM S w m A) {b : Nat} (hb : b < 8) : RM (ur S b []) (sI w (A 10) b 0) m A := by
  obtain ⟨h1, ⟨a1, a2, a3⟩, ⟨b1, b2, b3, b4, b5, b6⟩, h4, h5, h6, h7, h8⟩ := h
  have ns : ∀ s, wI (sI w (A 10) b 0) m s = wI w m s := fun s => by
    rw [pI_I, if_neg (fun z => isM_ne h1 (k := 10) (by decide) z.1.symm)]
  have no : ∀ j, 0 < mKd j → j ≠ 10 → ∀ s, wI (sI w (A 10) b 0) (A j) s = wI w (A j) s := fun j hj n1 s => by
    rw [pI_I, if_neg (fun z => isM_nn h1 hj (by decide) n1 z.1)]
  refine ⟨isM_st h1 _ _ _, ⟨?_, ?_, ?_⟩, ⟨?_, ?_, ?_, ?_, ?_, ?_⟩, fun j hj s hs => ?_, fun c hc => ⟨?_, fun j x hx => ?_⟩, h6, h7, fun j x hx => ?_⟩
  · rw [ns]; exact a1
  · rw [ns]; exact a2
  · rw [ns]; exact a3
  · rw [ns]; exact b1
  · rw [ns]; exact b2
  · rw [ns]; exact b3
  · rw [ns]; exact b4
  · rw [ns]; exact b5
  · rw [ns]; exact b6
  · obtain ⟨k1, k2, k3, -⟩ := isInt_kd hj
    rw [no j k1 k2]; exact h4 j hj s hs
  · rw [pI_I, rr_ur]
    by_cases hcb : c = b
    · rw [if_pos ⟨rfl, hcb⟩, if_pos hcb]; rfl
    · rw [if_neg (fun z => hcb z.2), if_neg hcb]
      exact (h5 c hc).1
  · rw [no 11 (by decide) (by decide)]
    rw [rr_ur] at hx
    by_cases hcb : c = b
    · rw [if_pos hcb] at hx
      simp at hx
    · rw [if_neg hcb] at hx
      exact (h5 c hc).2 j x hx
  · rw [no 31 (by decide) (by decide)]; exact h8 j x hx
section MO
variable {e0 mi m : Nat} {A : Nat → Nat}
theorem M_clean {b N : Nat} {l : List Nat} {w0 : Wd} {Q : Int32 → Wd → Prop} (hl : l.length = N) (hN : N ≤ 60) (hb : b < 8) (h61 : ∀ i ∈ l, i < 61) : ∀ (n k : Nat) (T : St) (w : Wd), k + n = N → rr T b = l → RM T w m A → FM m A w0 w → (∀ w', RM (ur (markL T (l.drop k)) b []) w' m A → FM m A w0 w' → Q (nI N) w') → wb_Mo_clean_60 e0 mi Q (n + 1) m (nI b) (nI N) (nI k) w
  | 0, k, T, w, hk, hr, R, F, hQ => by
    have : k = N := by omega
    subst this
    unfold wb_Mo_clean_60
    have cb : (nI b).toNatClampNeg = b := nI_clamp (by omega)
    rw [List.drop_of_length_le (by omega)] at hQ
    refine ⟨fun _ => ⟨R.1.1, ldA R.1 10 (n := 8) rfl (by decide) rfl rfl hb ?_⟩, fun z => absurd (nI_le (Nat.le_refl _) (by omega)) z⟩
    rw [cb]
    exact hQ _ (RM_clr R hb) (F.ar (by decide) (isM_ne R.1 (by decide)) b 0)
  | n + 1, k, T, w, hk, hr, R, F, hQ => by
    have hkl : k < l.length := by omega
    have hj : l[k]? = some l[k] := List.getElem?_eq_getElem hkl
    have hd : l.drop k = l[k] :: l.drop (k + 1) := List.drop_eq_getElem_cons hkl
    rw [hd] at hQ
    have i61 := h61 _ (List.mem_of_getElem? hj)
    have v11 := (R.2.2.2.2.1 b hb).2 k l[k] (by rw [hr]; exact hj)
    generalize l[k] = i at hQ i61 v11
    have ci : (nI i).toNatClampNeg = i := nI_clamp (by omega)
    unfold wb_Mo_clean_60
    rw [i60', nI_add]
    have ck : (nI (60 * b + k)).toNatClampNeg = 60 * b + k := nI_clamp (by omega)
    refine ⟨fun z => absurd z (nI_ge (by omega) (by omega)), fun _ => ⟨R.1.1, ldA R.1 11 (n := 480) rfl (by decide) rfl rfl (by omega) ?_⟩⟩
    rw [ck, v11, ci]
    refine ldA R.1 13 (n := 61) rfl (by decide) rfl rfl i61 (fun i13 e13 => ?_)
    rw [e13, nI_1]
    exact M_clean hl hN hb h61 n (k + 1) (um T 13 i 2) _ (by omega) (by rw [rr_um]; exact hr) (RM_um R (by unfold isInt; decide) 2) (F.ar (by decide) (isM_ne R.1 (by decide)) i 2) hQ
variable {S : St} {w : Wd}
theorem N_clean {x1 : Int32} {Q : Int32 → Wd → Prop} (h : RM S w m A) (hS : okS S) (h1 : ¬ (∃ b, b < nB S ∧ x1 = nI b) → ∀ w', PM m A S 1 w w' → Q 0 w') (h2 : ∀ b, b < nB S → x1 = nI b → ¬ mm S 6 b = 0 → ∀ w', PM m A S 2 w w' → Q 0 w')
    (h0 : ∀ b, b < nB S → x1 = nI b → mm S 6 b = 0 → ∀ w', PM m A (cleanN S b (rr S b).length) 0 w w' → Q (nI (rr S b).length) w') : wp_Mo_clean e0 mi m x1 w Q := by
  have hm := h.1.1
  have hb8 := hS.1.1
  have hT := hS.1.2.1
  unfold wp_Mo_clean
  refine ⟨hm, M_isBelt h hS (fun z => ⟨fun y => absurd rfl y, fun _ => ?_⟩) (fun b hb hx => ⟨fun _ => ?_, fun y => absurd y (by decide)⟩)⟩
  · unfold wb_Mo_clean_14 wb_Mo_clean_42
    exact ⟨m, rfl, hm, hm, fun _ => ⟨hm, fun y => absurd y (cd_1 w m), fun _ => h1 z _ (PM_code h FX.rfl 1)⟩, fun y => absurd y (cd_1e w m)⟩
  · have p0 := PM_code h FX.rfl 0
    have b8 : b < 8 := by omega
    have cb : (nI b).toNatClampNeg = b := nI_clamp (by omega)
    unfold wb_Mo_clean_14
    refine ⟨m, rfl, hm, hm, fun y => absurd (cd_e w m 0) y, fun _ => ?_⟩
    generalize sI w m 0 0 = u at p0 ⊢
    rw [hx, cb]
    refine ldA p0.1.1 6 (n := 8) rfl (by decide) rfl rfl b8 ?_
    rw [p0.1.2.2.2.1 6 (by unfold isInt; decide) b b8]
    unfold wb_Mo_clean_39 wb_Mo_clean_42
    refine ⟨fun z => ⟨m, rfl, p0.1.1.1, p0.1.1.1, fun _ => ?_, fun y => absurd (by rw [cd_e]; decide) y⟩, fun z => ⟨m, rfl, p0.1.1.1, p0.1.1.1, fun y => absurd y (by rw [cd_e]; decide), fun _ => h2 b hb hx z _ (PM_code p0.1 p0.2.1 2)⟩⟩
    have p1 := PM_code p0.1 p0.2.1 0
    generalize sI u m 0 0 = u1 at p1 ⊢
    refine ldA p1.1.1 10 (n := 8) rfl (by decide) rfl rfl b8 (fun i6 e6 => ⟨(rr S b).length + 1, ?_⟩)
    rw [e6, cb, (p1.1.2.2.2.2.1 b b8).1]
    refine M_clean (l := rr S b) (w0 := u1) rfl (okS_R hS b b8).1 b8 (fun i hi => by have := (hS.2.2.1 b i hi).2.1; omega) (rr S b).length 0 S u1 (by omega) rfl p1.1 FM.rfl (fun w' R' F' => h0 b hb hx z w' (PM_fm p1 F' ?_))
    rw [cleanN_eq (rr S b) S b rfl]
    exact R'
end MO
end
section
/-! CALLS OF THE REFERENCE: join -/
def cwN (S : St) (t : Nat) : Nat → Nat
  | 0 => 0
  | k + 1 => cwN S t k + (if mm S 7 k = nI t then 1 else 0)
theorem cwN_way (S : St) (t : Nat) : ∀ n, cwN S t (2 * n) = wayN S t n
  | 0 => rfl
  | n + 1 => by
    show cwN S t (2 * n + 1 + 1) = _
    unfold wayN
    rw [← cwN_way S t n]
    rfl
theorem cwN_le (S : St) (t : Nat) : ∀ n, cwN S t n ≤ n
  | 0 => Nat.le_refl _
  | n + 1 => by
    have := cwN_le S t n
    unfold cwN
    split <;> omega
section MO
variable {e0 mi m : Nat} {A : Nat → Nat} {S : St} {w : Wd}
theorem M_ways {t : Nat} {x1 x2 x4 : Int32} {Q : Int32 → Wd → Prop} (R : RM S w m A) (h8 : nB S ≤ 8) (hQ : Q (nI (wayN S t (nB S))) w) : ∀ (n k : Nat), k + n = 2 * nB S → wb_Mo_join_103 e0 mi Q (n + 1) m x1 x2 (nI t) x4 (nI (cwN S t k)) (nI k) w := by
  have e3 : (2 : Int32) * wI w m 3 = nI (2 * nB S) := by
    have l3 : wI w m 3 = nI (nB S) := R.2.2.1.1
    have := i2 (nB S) 0
    rw [l3]
    have z : nI 0 = 0 := rfl
    rw [z, Int32.add_zero] at this
    exact this
  intro n
  induction n with
  | zero =>
    intro k hk
    have : k = 2 * nB S := by omega
    subst this
    unfold wb_Mo_join_103
    rw [e3, cwN_way]
    exact ⟨R.1.1, fun _ => hQ, fun z => absurd (nI_le (Nat.le_refl _) (by omega)) z⟩
  | succ n ih =>
    intro k hk
    have k16 : k < 16 := by omega
    have ck : (nI k).toNatClampNeg = k := nI_clamp (by omega)
    have c1 : nI (cwN S t k) + 1 = nI (cwN S t k + 1) := nI_1 _
    have c0 : nI (cwN S t k) + 0 = nI (cwN S t k) := Int32.add_zero _
    unfold wb_Mo_join_103 wb_Mo_join_132
    rw [e3]
    refine ⟨R.1.1, fun z => absurd z (nI_ge (by omega) (by omega)), fun _ => ldA R.1 7 (n := 16) rfl (by decide) rfl rfl k16 ?_⟩
    rw [ck, R.2.2.2.1 7 (by unfold isInt; decide) k k16]
    have := ih (k + 1) (by omega)
    unfold cwN at this
    refine ⟨fun z i1 e1 i2 e2 => ?_, fun z i1 e1 i2 e2 => ?_⟩
    · rw [if_neg z] at this
      rw [e1, e2, c0, nI_1]
      exact this
    · rw [if_pos z] at this
      rw [e1, e2, c1, nI_1]
      exact this
theorem N_join {x1 x2 x3 x4 : Int32} {Q : Int32 → Wd → Prop} (h : RM S w m A) (hS : okS S) (h1 : ¬ ((∃ b, b < nB S ∧ x1 = nI b) ∧ (∃ b, b < nB S ∧ x3 = nI b)) → ∀ w', PM m A S 1 w w' → Q 0 w')
    (h2 : ∀ b t, b < nB S → x1 = nI b → t < nB S → x3 = nI t → ¬ (rng x2 0 1 ∧ rng x4 1 9 ∧ b < t) → ∀ w', PM m A S 2 w w' → Q 0 w')
    (h0 : ∀ b t y, b < nB S → x1 = nI b → t < nB S → x3 = nI t → y < 2 → x2 = nI y → rng x2 0 1 → rng x4 1 9 → b < t → ∀ w', PM m A (joinS S (2 * b + y) t x4) 0 w w' → Q (nI (wayN (joinS S (2 * b + y) t x4) t (nB S))) w') : wp_Mo_join e0 mi m x1 x2 x3 x4 w Q := by
  have hm := h.1.1
  have hb8 := hS.1.1
  have T : ∀ c, ¬ c ≤ (0 : Int32) → Q 0 (sI w m 0 c) → wb_Mo_join_51 e0 mi Q m x1 x2 x3 x4 (some m) c w := fun c hc hq => by
    unfold wb_Mo_join_51
    exact ⟨m, rfl, hm, hm, fun y => absurd y (by rw [cd_e]; exact hc), fun _ => hq⟩
  unfold wp_Mo_join wb_Mo_join_17 wb_Mo_join_46
  refine ⟨hm, M_isBelt h hS (fun z => ⟨fun _ => T 1 (by decide) (h1 (fun y => z y.1) _ (PM_code h FX.rfl 1)), fun y => absurd rfl y⟩) (fun b hb hx => ⟨fun y => absurd y (by decide), fun _ => ⟨hm, M_isBelt h hS (fun z => ⟨fun y => absurd rfl y, fun _ => T 1 (by decide) (h1 (fun y => z y.2) _ (PM_code h FX.rfl 1))⟩) (fun t ht hx3 => ⟨fun _ => ?_, fun y => absurd y (by decide)⟩)⟩⟩)⟩
  have T2 : ¬ (rng x2 0 1 ∧ rng x4 1 9 ∧ b < t) → wb_Mo_join_51 e0 mi Q m x1 x2 x3 x4 (some m) 2 w := fun hn => T 2 (by decide) (h2 b t hb hx ht hx3 hn _ (PM_code h FX.rfl 2))
  refine mo_in (fun z1 => ⟨fun y => absurd y (by decide), fun _ => mo_in (fun z2 => ⟨fun y => absurd y (by decide), fun _ => ⟨fun z3 => ?_, fun z3 => T2 (fun y => z3 (by rw [hx, hx3]; exact nI_lt y.2.2 (by omega)))⟩⟩) (fun z2 => ⟨fun _ => T2 (fun y => z2 y.2.1), fun y => absurd rfl y⟩)⟩) (fun z1 => ⟨fun _ => T2 (fun y => z1 y.1), fun y => absurd rfl y⟩)
  have hbt : b < t := by
    rcases Nat.lt_or_ge b t with u | u
    · exact u
    · rw [hx, hx3] at z3; exact absurd z3 (nI_nlt u (by omega))
  obtain ⟨y, hy, hxy⟩ := nI_of2 (M := 1) (n := 1) (by decide) z1.1 (Int32.not_lt.mp z1.2)
  have hy2 : y < 2 := by omega
  have hq := h0 b t y hb hx ht hx3 hy2 hxy z1 z2 hbt
  have p0 := PM_code h FX.rfl 0
  unfold wb_Mo_join_51
  refine ⟨m, rfl, hm, hm, fun _ => ?_, fun y => absurd (by rw [cd_e]; decide) y⟩
  generalize sI w m 0 0 = u at p0 ⊢
  have ne : ∀ k, 0 < mKd k → A k ≠ m := fun k hk => isM_ne h.1 hk
  have ix : (2 : Int32) * x1 + x2 = nI (2 * b + y) := by rw [hx, hxy]; exact i2 b y
  have ck : (nI (2 * b + y)).toNatClampNeg = 2 * b + y := nI_clamp (by omega)
  rw [ix, ck, hx3]
  have R1 := RM_um p0.1 (k := 7) (i := 2 * b + y) (by unfold isInt; decide) (nI t)
  have R2 := RM_um R1 (k := 8) (i := 2 * b + y) (by unfold isInt; decide) x4
  have R3 := RM_um R2 (k := 9) (i := 2 * b + y) (by unfold isInt; decide) 0
  have F3 := (((FM.rfl (m := m) (A := A) (w := u)).ar (k := 7) (by decide) (ne 7 (by decide)) (2 * b + y) (nI t)).ar (k := 8) (by decide) (ne 8 (by decide)) (2 * b + y) x4).ar (k := 9) (by decide) (ne 9 (by decide)) (2 * b + y) 0
  have R3' : RM (joinS S (2 * b + y) t x4) _ m A := R3
  have hq2 := hq _ (PM_fm p0 F3 R3')
  refine ldA p0.1.1 7 (n := 16) rfl (by decide) rfl rfl (by omega) (ldA R1.1 8 (n := 16) rfl (by decide) rfl rfl (by omega) (ldA R2.1 9 (n := 16) rfl (by decide) rfl rfl (by omega) ⟨2 * nB S + 1, M_ways R3' hb8 hq2 (2 * nB S) 0 (by rw [Nat.zero_add]; rfl)⟩))
end MO
end
section
/-! WHAT HOLDS OF EVERY STATE IS KEPT by every call -/
theorem ok_belt {S : St} (h : okS S) (hn : nB S < 8) (l v : Int32) : okS (beltS S l v) := by
  obtain ⟨h1, h2, h3, h4, h5, h6, h7, h8, h9, h10⟩ := h
  have e13 := mm_belt S l v (k := 13) (by decide)
  have e14 := mm_belt S l v (k := 14) (by decide)
  have e17 := mm_belt S l v (k := 17) (by decide)
  have e22 := mm_belt S l v (k := 22) (by decide)
  have eB : nB (beltS S l v) = nB S + 1 := rfl
  refine ⟨⟨by rw [eB]; omega, h1.2⟩, fun b hb => ?_, fun b j hj => ?_, h4, fun j hj1 hj2 => ?_, fun b hb y hy => ?_, ⟨h7.1, fun j hj => ?_⟩, fun s hs => ?_, h9, h10⟩
  · rw [eB] at hb; exact h2 b (by omega)
  · rw [e13, e14, e17]; exact h3 b j hj
  · rw [e13, e14, eB]
    obtain ⟨b, a1, a2, a3⟩ := h5 j hj1 hj2
    exact ⟨b, by omega, a2, a3⟩
  · rw [eB] at hb ⊢
    rw [mm7_belt]
    by_cases hbn : b = nB S
    · rw [if_pos (by omega)]; exact Or.inl rfl
    · rw [if_neg (by omega)]
      rcases h6 b (by omega) y hy with z | ⟨c, c1, c2, c3⟩
      · exact Or.inl z
      · exact Or.inr ⟨c, c1, by omega, c3⟩
  · rw [e13]; exact h7.2 j hj
  · rw [e22, eB]
    obtain ⟨b, a1, a2⟩ := h8 s hs
    exact ⟨b, by omega, a2⟩
theorem ok_scan {S : St} (h : okS S) (hn : nS S < 4) {b : Nat} (hb : b < nB S) (p d : Int32) : okS (scanS S (nI b) p d) := by
  obtain ⟨h1, h2, h3, h4, h5, h6, h7, h8, h9, h10⟩ := h
  have e13 := mm_scan S (nI b) p d (k := 13) (by decide)
  have e14 := mm_scan S (nI b) p d (k := 14) (by decide)
  have e17 := mm_scan S (nI b) p d (k := 17) (by decide)
  have e7 := mm_scan S (nI b) p d (k := 7) (by decide)
  have eS : nS (scanS S (nI b) p d) = nS S + 1 := rfl
  refine ⟨⟨h1.1, h1.2.1, by rw [eS]; omega⟩, h2, fun b j hj => ?_, h4, fun j hj1 hj2 => ?_, fun b hb y hy => ?_, ⟨h7.1, fun j hj => ?_⟩, fun s hs => ?_, h9, h10⟩
  · rw [e13, e14, e17]; exact h3 b j hj
  · rw [e13, e14]; exact h5 j hj1 hj2
  · rw [e7]; exact h6 b hb y hy
  · rw [e13]; exact h7.2 j hj
  · rw [eS] at hs
    rw [mm22_scan]
    by_cases hsn : s = nS S
    · rw [if_pos hsn]; exact ⟨b, hb, rfl⟩
    · rw [if_neg hsn]; exact h8 s (by omega)
theorem ok_item {S : St} (h : okS S) (hn : nT S < 60) {b : Nat} (hb : b < nB S) (l : Int32) : okS (itemS S b l) := by
  obtain ⟨h1, h2, h3, h4, h5, h6, h7, h8, h9, h10⟩ := h
  have e13 : ∀ a, mm (itemS S b l) 13 a = if a = nT S + 1 then 0 else mm S 13 a := fun a => by unfold itemS; rw [mm_come _ _ _ (by decide), mm13_item1]
  have e14 : ∀ a, mm (itemS S b l) 14 a = if a = nT S + 1 then nI b else mm S 14 a := fun a => by unfold itemS; rw [mm14_come, mm_item1 _ _ (by decide)]
  have e17 : ∀ a, mm (itemS S b l) 17 a = if a = nT S + 1 then 0 else mm S 17 a := fun a => by unfold itemS; rw [mm17_come, mm_item1 _ _ (by decide)]
  have e7 : mm (itemS S b l) 7 = mm S 7 := by unfold itemS; rw [mm_come _ _ _ (by decide), mm_item1 _ _ (by decide)]
  have e22 : mm (itemS S b l) 22 = mm S 22 := by unfold itemS; rw [mm_come _ _ _ (by decide), mm_item1 _ _ (by decide)]
  have er : ∀ c, rr (itemS S b l) c = if c = b then rr S b ++ [nT S + 1] else rr S c := fun c => by unfold itemS; rw [rr_come]; unfold item1; rw [rr_uT, rr_um, rr_um, rr_um]
  have eT : nT (itemS S b l) = nT S + 1 := by unfold itemS comeS; rw [nT_ur, nT_um, nT_um, nT_um, nT_um, nT_um]; unfold item1; rw [nT_uT]
  have eB : nB (itemS S b l) = nB S := by unfold itemS comeS; rw [nB_ur, nB_um, nB_um, nB_um, nB_um, nB_um]; unfold item1; rw [nB_uT, nB_um, nB_um, nB_um]
  have eN : nS (itemS S b l) = nS S := by unfold itemS comeS; rw [nS_ur, nS_um, nS_um, nS_um, nS_um, nS_um]; unfold item1; rw [nS_uT, nS_um, nS_um, nS_um]
  have eg : gos (itemS S b l) = gos S := by unfold itemS comeS; rw [gos_ur, gos_um, gos_um, gos_um, gos_um, gos_um]; unfold item1; rw [gos_uT, gos_um, gos_um, gos_um]
  have ee : eds (itemS S b l) = eds S := by unfold itemS comeS; rw [eds_ur, eds_um, eds_um, eds_um, eds_um, eds_um]; unfold item1; rw [eds_uT, eds_um, eds_um, eds_um]
  have ew : wts (itemS S b l) = wts S := by unfold itemS comeS; rw [wts_ur, wts_um, wts_um, wts_um, wts_um, wts_um]; unfold item1; rw [wts_uT, wts_um, wts_um, wts_um]
  generalize itemS S b l = S' at e13 e14 e17 e7 e22 er eT eB eN eg ee ew ⊢
  unfold okS
  rw [eB, eN, eg, ee, ew]
  refine ⟨⟨h1.1, by rw [eT]; omega, h1.2.2⟩, fun c hc => ?_, fun c a ha => ?_, fun c => ?_, fun a ha1 ha2 => ?_, fun c hc y hy => ?_, ⟨h7.1, fun a ha => ?_⟩, fun s hs => ?_, h9, h10⟩
  · rw [er, if_neg (by omega)]; exact h2 c hc
  · rw [er] at ha
    rw [e13, e14, e17, eT]
    have key : (a = nT S + 1 ∧ c = b) ∨ a ∈ rr S c := by
      by_cases hcb : c = b
      · rw [if_pos hcb] at ha
        rcases List.mem_append.mp ha with z | z
        · right; rw [hcb]; exact z
        · left; exact ⟨List.mem_singleton.mp z, hcb⟩
      · rw [if_neg hcb] at ha; exact Or.inr ha
    rcases key with ⟨z, zc⟩ | z
    · rw [if_pos z, if_pos z, if_pos z, z, zc]
      exact ⟨by omega, Nat.le_refl _, rfl, rfl, Or.inl rfl⟩
    · have := h3 c a z
      have hne : ¬ a = nT S + 1 := by omega
      rw [if_neg hne, if_neg hne, if_neg hne]
      exact ⟨this.1, by omega, this.2.2⟩
  · rw [er]
    by_cases hcb : c = b
    · rw [if_pos hcb]
      exact List.nodup_append.mpr ⟨h4 b, List.nodup_cons.mpr ⟨by simp, List.nodup_nil⟩, fun a ha a2 ha2 => by
        rw [List.mem_singleton.mp ha2]
        have := (h3 b a ha).2.1
        omega⟩
    · rw [if_neg hcb]; exact h4 c
  · rw [eT] at ha2
    rw [e13, e14]
    by_cases haj : a = nT S + 1
    · refine ⟨b, hb, by rw [if_pos haj], fun _ => ?_⟩
      rw [er, if_pos rfl, haj]; simp
    · obtain ⟨c, c1, c2, c3⟩ := h5 a ha1 (by omega)
      refine ⟨c, c1, by rw [if_neg haj]; exact c2, fun hz => ?_⟩
      rw [if_neg haj] at hz
      have := c3 hz
      rw [er]
      by_cases hcb : c = b
      · rw [if_pos hcb]; rw [hcb] at this; exact List.mem_append_left _ this
      · rw [if_neg hcb]; exact this
  · rw [e7]; exact h6 c hc y hy
  · have := h7.2 a ha
    rw [e13, eT, if_neg (by omega)]
    exact ⟨this.1, by omega, this.2.2⟩
  · rw [e22]; exact h8 s hs
theorem ok_clean {b : Nat} : ∀ (n : Nat) {S : St}, okS S → okS (cleanN S b n)
  | 0, _, h => h
  | n + 1, S, h => by
    unfold cleanN
    cases hr : rr S b with
    | nil => exact h
    | cons i t => exact ok_clean n (by rw [← hr]; exact ok_leave h (p := 0) (by rw [hr]; rfl) (by decide))
end
section
/-! HOW MANY EDGES THERE CAN BE: every call; a slip may bring four more, no other call any -/
theorem phi_um {S : St} {k : Nat} (hk : k ≠ 13 ∧ k ≠ 14 ∧ k ≠ 15 ∧ k ≠ 22 ∧ k ≠ 23) (i : Nat) (v : Int32) : Phi (um S k i v) ≤ Phi S :=
  phi_same (by rw [eds_um, wts_um]; exact Nat.le_refl _) (fun j _ _ => Nat.le_of_eq (pot_eq (nT_um S k i v) (nS_um S k i v) (mm_um_ne S i v (Ne.symm hk.1)) (mm_um_ne S i v (Ne.symm hk.2.1)) (mm_um_ne S i v (Ne.symm hk.2.2.1)) (mm_um_ne S i v (Ne.symm hk.2.2.2.1)) (mm_um_ne S i v (Ne.symm hk.2.2.2.2)) j))
theorem phi_belt (S : St) (l v : Int32) : Phi (beltS S l v) ≤ Phi S :=
  phi_same (Nat.le_refl _) (fun j _ _ => Nat.le_of_eq (pot_eq rfl rfl (mm_belt S l v (by decide)) (mm_belt S l v (by decide)) (mm_belt S l v (by decide)) (mm_belt S l v (by decide)) (mm_belt S l v (by decide)) j))
theorem phi_join (S : St) (k t : Nat) (sh : Int32) : Phi (joinS S k t sh) ≤ Phi S := by
  unfold joinS
  exact Nat.le_trans (phi_um (by decide) _ _) (Nat.le_trans (phi_um (by decide) _ _) (phi_um (by decide) _ _))
theorem phi_slip {S : St} {i : Nat} (i1 : 1 ≤ i) (i2' : i ≤ 60) (v : Int32) : Phi (um S 15 i v) ≤ Phi S + 4 := by
  have h := sm_one (f := potI (um S 15 i v)) (g := potI S) (j := i) 60 (fun j hj _ _ => by
    have e15 : mm (um S 15 i v) 15 j = mm S 15 j := by rw [mm_um, if_neg (fun z => hj z.2)]
    unfold potI ah4 ahS bn sbn
    rw [nT_um, nS_um, mm_um_ne S i v (show (13 : Nat) ≠ 15 by decide), mm_um_ne S i v (show (14 : Nat) ≠ 15 by decide), mm_um_ne S i v (show (22 : Nat) ≠ 15 by decide), mm_um_ne S i v (show (23 : Nat) ≠ 15 by decide), e15]
    exact Nat.le_refl _) i1 i2'
  have hi : potI (um S 15 i v) i ≤ potI S i + 4 := by
    have a := ah4_le (um S 15 i v) i
    unfold potI bn
    rw [nT_um, mm_um_ne S i v (show (13 : Nat) ≠ 15 by decide), mm_um_ne S i v (show (14 : Nat) ≠ 15 by decide)]
    by_cases h1 : nT S < i
    · rw [if_pos h1, if_pos h1]; omega
    · rw [if_neg h1, if_neg h1]
      by_cases h2 : mm S 13 i = 0
      · rw [if_pos h2, if_pos h2]; omega
      · rw [if_neg h2, if_neg h2]; omega
  unfold Phi
  rw [eds_um, wts_um]
  omega
theorem phi_leave {S : St} {b i : Nat} (l : List Nat) {v : Int32} (hv : ¬ v = 0) (i1 : 1 ≤ i) (i2' : i ≤ nT S) : Phi (um (ur S b l) 13 i v) ≤ Phi S := by
  refine phi_same (by rw [eds_um, wts_um, eds_ur, wts_ur]; exact Nat.le_refl _) (fun j _ _ => ?_)
  by_cases hj : j = i
  · subst hj
    have e13 : mm (um (ur S b l) 13 j v) 13 j = v := by rw [mm_um, if_pos ⟨rfl, rfl⟩]
    have e : potI (um (ur S b l) 13 j v) j = 0 := by
      unfold potI
      rw [nT_um, nT_ur, e13, if_neg (show ¬ nT S < j by omega), if_neg hv]
    rw [e]
    exact Nat.zero_le _
  · have e13 : mm (um (ur S b l) 13 i v) 13 j = mm S 13 j := by rw [mm_um, if_neg (fun z => hj z.2), mm_ur]
    unfold potI ah4 ahS bn sbn
    rw [nT_um, nS_um, mm_um_ne _ i v (show (14 : Nat) ≠ 13 by decide), mm_um_ne _ i v (show (15 : Nat) ≠ 13 by decide), mm_um_ne _ i v (show (22 : Nat) ≠ 13 by decide), mm_um_ne _ i v (show (23 : Nat) ≠ 13 by decide), e13, nT_ur, nS_ur, mm_ur]
    exact Nat.le_refl _
theorem phi_clean {b : Nat} : ∀ (n : Nat) {S : St}, okS S → Phi (cleanN S b n) ≤ Phi S
  | 0, _, _ => Nat.le_refl _
  | n + 1, S, h => by
    unfold cleanN
    cases hr : rr S b with
    | nil => exact Nat.le_refl _
    | cons i t =>
      have hp : (rr S b)[0]? = some i := by rw [hr]; rfl
      have hi := h.2.2.1 b i (List.mem_of_getElem? hp)
      have o := ok_leave h (p := 0) (v := 2) hp (by decide)
      rw [hr] at o
      exact Nat.le_trans (phi_clean n o) (phi_leave _ (by decide) hi.1 hi.2.1)
theorem phi_scan (S : St) (hS : nS S < 4) (x p d : Int32) : Phi (scanS S x p d) ≤ Phi S := by
  have e13 := mm_scan S x p d (k := 13) (by decide)
  have e14 := mm_scan S x p d (k := 14) (by decide)
  have e15 := mm_scan S x p d (k := 15) (by decide)
  have eS : nS (scanS S x p d) = nS S + 1 := rfl
  have eT : nT (scanS S x p d) = nT S := rfl
  have ah : ∀ i s, ahS (scanS S x p d) i s ≤ ahS S i s := fun i s => by
    by_cases hs : nS S ≤ s
    · have := ah_le (scanS S x p d) i s
      have e : ahS S i s = 1 := by unfold ahS; rw [if_pos (Or.inl hs)]
      omega
    · have a := mm22_scan S x p d s
      have a2 := mm23_scan S x p d s
      rw [if_neg (show ¬ s = nS S by omega)] at a a2
      unfold ahS bn sbn
      rw [eS, e14, e15, a, a2]
      by_cases hc : nS S ≤ s ∨ (mm S 14 i).toNatClampNeg < (mm S 22 s).toNatClampNeg ∨ ((mm S 14 i).toNatClampNeg = (mm S 22 s).toNatClampNeg ∧ mm S 15 i < mm S 23 s)
      · rw [if_pos hc]
        split <;> omega
      · rw [if_neg hc, if_neg (fun z => hc (z.imp (fun y => by omega) id))]
        exact Nat.le_refl _
  refine phi_same (Nat.le_refl _) (fun i _ _ => ?_)
  have h0 := ah i 0
  have h1 := ah i 1
  have h2 := ah i 2
  have h3 := ah i 3
  unfold potI ah4 bn
  rw [eT, e13, e14]
  split
  · exact Nat.le_refl _
  · split
    · omega
    · exact Nat.le_refl _
theorem phi_item {S : St} (b : Nat) (l : Int32) : Phi (itemS S b l) ≤ Phi S := by
  have e13 : ∀ a, mm (itemS S b l) 13 a = if a = nT S + 1 then 0 else mm S 13 a := fun a => by unfold itemS; rw [mm_come _ _ _ (by decide), mm13_item1]
  have e14 : ∀ a, mm (itemS S b l) 14 a = if a = nT S + 1 then nI b else mm S 14 a := fun a => by unfold itemS; rw [mm14_come, mm_item1 _ _ (by decide)]
  have e15 : ∀ a, mm (itemS S b l) 15 a = if a = nT S + 1 then 0 else mm S 15 a := fun a => by unfold itemS; rw [mm15_come, mm_item1 _ _ (by decide)]
  have e22 : mm (itemS S b l) 22 = mm S 22 := by unfold itemS; rw [mm_come _ _ _ (by decide), mm_item1 _ _ (by decide)]
  have e23 : mm (itemS S b l) 23 = mm S 23 := by unfold itemS; rw [mm_come _ _ _ (by decide), mm_item1 _ _ (by decide)]
  have eT : nT (itemS S b l) = nT S + 1 := by unfold itemS comeS; rw [nT_ur, nT_um, nT_um, nT_um, nT_um, nT_um]; unfold item1; rw [nT_uT]
  have eN : nS (itemS S b l) = nS S := by unfold itemS comeS; rw [nS_ur, nS_um, nS_um, nS_um, nS_um, nS_um]; unfold item1; rw [nS_uT, nS_um, nS_um, nS_um]
  have ee : eds (itemS S b l) = eds S := by unfold itemS comeS; rw [eds_ur, eds_um, eds_um, eds_um, eds_um, eds_um]; unfold item1; rw [eds_uT, eds_um, eds_um, eds_um]
  have ew : wts (itemS S b l) = wts S := by unfold itemS comeS; rw [wts_ur, wts_um, wts_um, wts_um, wts_um, wts_um]; unfold item1; rw [wts_uT, wts_um, wts_um, wts_um]
  generalize itemS S b l = S' at e13 e14 e15 e22 e23 eT eN ee ew ⊢
  refine phi_same (by rw [ee, ew]; exact Nat.le_refl _) (fun i _ _ => ?_)
  have a4 := ah4_le S' i
  by_cases hi : i = nT S + 1
  · unfold potI
    rw [eT, if_neg (show ¬ nT S + 1 < i by omega), if_pos (show nT S < i by omega)]
    split <;> omega
  · have ea : ah4 S' i = ah4 S i := by
      unfold ah4 ahS bn sbn
      rw [eN, e14, e15, e22, e23, if_neg hi, if_neg hi]
    unfold potI
    rw [ea, eT]
    unfold bn
    rw [e13, e14, if_neg hi, if_neg hi]
    by_cases h1 : nT S < i
    · rw [if_pos (show nT S + 1 < i by omega), if_pos h1]; exact Nat.le_refl _
    · rw [if_neg (show ¬ nT S + 1 < i by omega), if_neg h1]; exact Nat.le_refl _
end
section
/-! ok9 (ways of belts that are not there carried nothing) IS KEPT -/
theorem n9_of {S S' : St} (h : ok9 S) (hB : nB S' = nB S) (e : mm S' 9 = mm S 9) : ok9 S' := fun k hk => by
  rw [hB] at hk; rw [e]; exact h k hk
theorem n9_um {S : St} (h : ok9 S) {k : Nat} (hk : k ≠ 9) (i : Nat) (v : Int32) : ok9 (um S k i v) := n9_of h (nB_um S k i v) (mm_um_ne S i v (Ne.symm hk))
theorem n9_belt {S : St} (h : ok9 S) (l v : Int32) : ok9 (beltS S l v) := fun k hk => by
  rw [nB_belt] at hk
  rw [mm_belt S l v (by decide)]
  exact h k (by omega)
theorem n9_scan {S : St} (h : ok9 S) (x p d : Int32) : ok9 (scanS S x p d) := n9_of h rfl (mm_scan S x p d (by decide))
theorem n9_join {S : St} (h : ok9 S) (k t : Nat) (sh : Int32) : ok9 (joinS S k t sh) := fun j hj => by
  have hj' : 2 * nB S ≤ j := hj
  unfold joinS
  rw [mm_um]
  by_cases hjk : j = k
  · rw [if_pos ⟨rfl, hjk⟩]
  · rw [if_neg (fun z => hjk z.2), mm_um_ne _ _ _ (by decide), mm_um_ne _ _ _ (by decide)]
    exact h j hj'
theorem n9_item {S : St} (h : ok9 S) (b : Nat) (l : Int32) : ok9 (itemS S b l) := by
  refine n9_of h ?_ ?_
  · unfold itemS comeS; rw [nB_ur, nB_um, nB_um, nB_um, nB_um, nB_um]; unfold item1; rw [nB_uT, nB_um, nB_um, nB_um]
  · unfold itemS; rw [mm_come _ _ _ (by decide), mm_item1 _ _ (by decide)]
theorem n9_leave {S : St} (h : ok9 S) (b i : Nat) (l : List Nat) (v : Int32) : ok9 (um (ur S b l) 13 i v) := n9_of h (by rw [nB_um, nB_ur]) (by rw [mm_um_ne _ _ _ (by decide), mm_ur])
theorem n9_clean {b : Nat} : ∀ (n : Nat) {S : St}, ok9 S → ok9 (cleanN S b n) ∧ nB (cleanN S b n) = nB S
  | 0, _, h => ⟨h, rfl⟩
  | n + 1, S, h => by
    unfold cleanN
    cases hr : rr S b with
    | nil => exact ⟨h, rfl⟩
    | cons i t =>
      have := n9_clean (b := b) n (n9_leave h b i ((i :: t).eraseIdx 0) 2)
      exact ⟨this.1, this.2⟩
theorem n9_out {S : St} (h : ok9 S) (b : Nat) : ok9 (outS S b) := by
  unfold outS
  cases ha : atEndS S b with
  | none => exact h
  | some i => cases hg : goesS S b i with
    | some k => simp only [hg]; exact h
    | none =>
      simp only [hg]
      have a1 := n9_leave h b i ((rr S b).eraseIdx 0) 1
      have a2 : ok9 (ug (um (ur S b ((rr S b).eraseIdx 0)) 13 i 1) (gos S ++ [i])) := a1
      have a3 := n9_um a2 (k := 30) (by decide) 0 (mm S 30 0 + (mm S 1 0 - mm S 20 i))
      exact a3
theorem n9_pass {S : St} (h : ok9 S) (hS : okS S) {b : Nat} (hb : b < nB S) : ok9 (passS S b) := by
  unfold passS
  by_cases hz : 0 < missS S b
  · rw [if_pos hz]; exact h
  · rw [if_neg hz]
    cases hg : giverS S b b with
    | none => exact h
    | some k =>
      obtain ⟨x, hx, hk⟩ := giver_some b k hg
      obtain ⟨j, t, ht, -, -, ⟨y, hy, hky⟩, -, -⟩ := cand_some hS hk
      have hk2 : k / 2 = x := by omega
      simp only [hk2, ht]
      have a1 : ok9 (um (ur S x t) 9 k (mm S 9 k + 1)) := fun i hi => by
        have hi' : 2 * nB S ≤ i := hi
        rw [mm_um, if_neg (fun z => by omega), mm_ur]
        exact h i hi'
      have a2 : ok9 (comeS (um (ur S x t) 9 k (mm S 9 k + 1)) j b) := n9_of a1 (by unfold comeS; rw [nB_ur, nB_um, nB_um, nB_um, nB_um, nB_um]) (mm_come _ _ _ (by decide))
      exact a2
theorem n9_mv1 {S : St} (h : ok9 S) (b i : Nat) (most : Int32) : ok9 (mv1S S b most i) := n9_of h rfl (by rw [mm_mv1, mm_um_ne _ _ _ (by decide), mm_um_ne _ _ _ (by decide)])
theorem n9_mvL {b : Nat} : ∀ (l : List Nat) (S : St) (p : Option Nat), ok9 S → ok9 (mvLS S b p l)
  | [], S, p, h => by unfold mvLS; exact h
  | i :: t, S, p, h => by
    unfold mvLS
    exact n9_mvL t _ _ (n9_mv1 h b i _)
theorem n9_mvAll {S : St} (h : ok9 S) : ∀ n, ok9 (mvAllS S n)
  | 0 => by unfold mvAllS; exact h
  | n + 1 => by
    unfold mvAllS
    by_cases hz : mm (mvAllS S n) 6 n = 0
    · rw [if_pos hz]; exact n9_mvAll h n
    · rw [if_neg hz]; exact n9_mvL _ _ _ (n9_mvAll h n)
theorem n9_exAll : ∀ (n : Nat) (S : St), ok9 S → okS S → n ≤ nB S → ok9 (exAllS S n)
  | 0, S, h, _, _ => by unfold exAllS; exact h
  | n + 1, S, h, hS, hn => by
    unfold exAllS
    by_cases hz : mm S 6 n = 0
    · rw [if_pos hz]; exact n9_exAll n S h hS (by omega)
    · rw [if_neg hz]
      exact n9_exAll n (exchS S n) (n9_pass (n9_out h n) (ok_out hS (by omega)) (by rw [nB_out]; omega)) (ok_exch hS (by omega)) (by rw [nB_exch]; omega)
theorem n9_sec {S : St} (h : ok9 S) (hS : okS S) : ok9 (secS S) := by
  unfold secS
  have a1 : ok9 (tickS S) := n9_um h (by decide) _ _
  have a2 : ok9 (readS (tickS S)) := a1
  exact n9_mvAll (n9_exAll (nB S) _ a2 (ok_read (ok_tick hS)) (Nat.le_refl _)) _
theorem n9_steps {S : St} (h : ok9 S) (hS : okS S) : ∀ n, ok9 (stepsS S n)
  | 0 => h
  | n + 1 => n9_sec (n9_steps h hS n) (ok_steps hS n).1
end
section
/-! THE ROOM THAT A STATE HAS TAKEN: every call -/
theorem us_of {S S' : St} (a : nB S' = nB S) (b : nT S' = nT S) (c : nS S' = nS S) (d : (eds S').length = (eds S).length) (e : (wts S').length = (wts S).length) (f : wX S' = wX S) (g : (gos S').length = (gos S).length) : usC S' = usC S ∧ usS S' = usS S := by
  unfold usC usS
  rw [a, b, c, d, e, f, g]
  exact ⟨rfl, rfl⟩
theorem us_um (S : St) (k i : Nat) (v : Int32) : usC (um S k i v) = usC S ∧ usS (um S k i v) = usS S := us_of rfl rfl rfl rfl rfl rfl rfl
theorem us_leave (S : St) (b k i : Nat) (l : List Nat) (v : Int32) : usC (um (ur S b l) k i v) = usC S ∧ usS (um (ur S b l) k i v) = usS S := us_of rfl rfl rfl rfl rfl rfl rfl
theorem us_join (S : St) (k t : Nat) (sh : Int32) : usC (joinS S k t sh) = usC S ∧ usS (joinS S k t sh) = usS S := us_of rfl rfl rfl rfl rfl rfl rfl
theorem us_clean {b : Nat} : ∀ (n : Nat) (S : St), usC (cleanN S b n) = usC S ∧ usS (cleanN S b n) = usS S
  | 0, _ => ⟨rfl, rfl⟩
  | n + 1, S => by
    unfold cleanN
    cases hr : rr S b with
    | nil => exact ⟨rfl, rfl⟩
    | cons i t =>
      have h1 := us_clean (b := b) n (um (ur S b ((i :: t).eraseIdx 0)) 13 i 2)
      have h2 := us_leave S b 13 i ((i :: t).eraseIdx 0) 2
      exact ⟨h1.1.trans h2.1, h1.2.trans h2.2⟩
theorem us_belt (S : St) (l v : Int32) : usC (beltS S l v) = usC S + 3 + gC (nB S) (nB S) ∧ usS (beltS S l v) = usS S + 15 + gS (nB S) (nB S) := by
  have c1 : cc (nB S + 1) = cc (nB S) + gC (nB S) (nB S) := rfl
  have c2 : cs (nB S + 1) = cs (nB S) + gS (nB S) (nB S) := rfl
  have a : nT (beltS S l v) = nT S := rfl
  have b : nS (beltS S l v) = nS S := rfl
  have c : eds (beltS S l v) = eds S := rfl
  have d : wts (beltS S l v) = wts S := rfl
  have e : wX (beltS S l v) = wX S := rfl
  have f : gos (beltS S l v) = gos S := rfl
  unfold usC usS
  rw [nB_belt, a, b, c, d, e, f, c1, c2]
  exact ⟨by omega, by omega⟩
theorem us_scan (S : St) (x p d : Int32) : usC (scanS S x p d) = usC S + 1 + gC (nS S) (nS S) ∧ usS (scanS S x p d) = usS S + 4 + gS (nS S) (nS S) := by
  have c1 : cc (nS S + 1) = cc (nS S) + gC (nS S) (nS S) := rfl
  have c2 : cs (nS S + 1) = cs (nS S) + gS (nS S) (nS S) := rfl
  have a : nT (scanS S x p d) = nT S := rfl
  have b : nS (scanS S x p d) = nS S + 1 := rfl
  have b2 : nB (scanS S x p d) = nB S := rfl
  have c : eds (scanS S x p d) = eds S := rfl
  have d' : wts (scanS S x p d) = wts S := rfl
  have e : wX (scanS S x p d) = wX S := rfl
  have f : gos (scanS S x p d) = gos S := rfl
  unfold usC usS
  rw [a, b, b2, c, d', e, f, c1, c2]
  exact ⟨by omega, by omega⟩
theorem us_item (S : St) (b : Nat) (l : Int32) : usC (itemS S b l) = usC S + 1 + gC (nT S) (nT S) ∧ usS (itemS S b l) = usS S + 11 + gS (nT S) (nT S) := by
  have c1 : cc (nT S + 1) = cc (nT S) + gC (nT S) (nT S) := rfl
  have c2 : cs (nT S + 1) = cs (nT S) + gS (nT S) (nT S) := rfl
  have eT : nT (itemS S b l) = nT S + 1 := by unfold itemS comeS; rw [nT_ur, nT_um, nT_um, nT_um, nT_um, nT_um]; unfold item1; rw [nT_uT]
  have eB : nB (itemS S b l) = nB S := by unfold itemS comeS; rw [nB_ur, nB_um, nB_um, nB_um, nB_um, nB_um]; unfold item1; rw [nB_uT, nB_um, nB_um, nB_um]
  have eN : nS (itemS S b l) = nS S := by unfold itemS comeS; rw [nS_ur, nS_um, nS_um, nS_um, nS_um, nS_um]; unfold item1; rw [nS_uT, nS_um, nS_um, nS_um]
  have eg : gos (itemS S b l) = gos S := by unfold itemS comeS; rw [gos_ur, gos_um, gos_um, gos_um, gos_um, gos_um]; unfold item1; rw [gos_uT, gos_um, gos_um, gos_um]
  have ee : eds (itemS S b l) = eds S := by unfold itemS comeS; rw [eds_ur, eds_um, eds_um, eds_um, eds_um, eds_um]; unfold item1; rw [eds_uT, eds_um, eds_um, eds_um]
  have ew : wts (itemS S b l) = wts S := by unfold itemS comeS; rw [wts_ur, wts_um, wts_um, wts_um, wts_um, wts_um]; unfold item1; rw [wts_uT, wts_um, wts_um, wts_um]
  have ex : wX (itemS S b l) = wX S := by unfold itemS comeS; rw [wX_ur, wX_um, wX_um, wX_um, wX_um, wX_um]; unfold item1; rw [wX_uT, wX_um, wX_um, wX_um]
  unfold usC usS
  rw [eT, eB, eN, eg, ee, ew, ex, c1, c2]
  exact ⟨by omega, by omega⟩
end
