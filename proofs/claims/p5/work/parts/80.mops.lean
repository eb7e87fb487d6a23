/-! CALLS OF THE REFERENCE over the state -/
def FX (m : Nat) (A : Nat → Nat) (w w' : Wd) : Prop := (wL w' = wL w ∧ wK w' = wK w ∧ wR w' = wR w ∧ wN w' = wN w) ∧ ∀ b, b ≠ m → (∀ k, 0 < mKd k → b ≠ A k) → wI w' b = wI w b ∧ wJ w' b = wJ w b
theorem FX.rfl {m : Nat} {A : Nat → Nat} {w : Wd} : FX m A w w := ⟨⟨Eq.refl _, Eq.refl _, Eq.refl _, Eq.refl _⟩, fun _ _ _ => ⟨Eq.refl _, Eq.refl _⟩⟩
theorem FX.code {m : Nat} {A : Nat → Nat} {w w' : Wd} (h : FX m A w w') (v : Int32) : FX m A w (sI w' m 0 v) := by
  refine ⟨h.1, fun b hb hj => ⟨?_, (h.2 b hb hj).2⟩⟩
  rw [← (h.2 b hb hj).1]; funext j; rw [pI_I, if_neg (fun z => hb z.1)]
theorem FX.fm {m : Nat} {A : Nat → Nat} {w w1 w2 : Wd} (h : FX m A w w1) (h2 : FM m A w1 w2) : FX m A w w2 :=
  ⟨⟨h2.1.1.trans h.1.1, h2.1.2.1.trans h.1.2.1, h2.1.2.2.1.trans h.1.2.2.1, h2.1.2.2.2.trans h.1.2.2.2⟩, fun b hb hk => ⟨(h2.2.2 b hb hk).1.trans (h.2 b hb hk).1, (h2.2.2 b hb hk).2.trans (h.2 b hb hk).2⟩⟩
/-- behind a call of the reference: it holds S', it tells the number c of what it threw -/
def PM (m : Nat) (A : Nat → Nat) (S' : St) (c : Int32) (w w' : Wd) : Prop := RM S' w' m A ∧ FX m A w w' ∧ wI w' m 0 = c
theorem PM_code {m : Nat} {A : Nat → Nat} {S : St} {w w1 : Wd} (h : RM S w1 m A) (hf : FX m A w w1) (c : Int32) : PM m A S c w (sI w1 m 0 c) := ⟨RM_code h c, hf.code c, cd_e w1 m c⟩
theorem PM_fm {m : Nat} {A : Nat → Nat} {S S' : St} {c : Int32} {w w1 w2 : Wd} (h : PM m A S c w w1) (h2 : FM m A w1 w2) (hR : RM S' w2 m A) : PM m A S' c w w2 := ⟨hR, h.2.1.fm h2, h2.2.1.trans h.2.2⟩
section MO
variable {e0 mi m : Nat} {A : Nat → Nat} {S : St} {w : Wd}
theorem N_gaps {x1 : Int32} {Q : Wd → Prop} (h : RM S w m A) (h1 : ¬ rng x1 0 1000 → ∀ w', PM m A S 1 w w' → Q w') (h0 : rng x1 0 1000 → ∀ w', PM m A (um S 2 0 x1) 0 w w' → Q w') : wp_Mo_gaps e0 mi m x1 w Q := by
  have p0 := PM_code h FX.rfl 0
  exact eM_gaps h.1.1 (fun z => h0 z _ (PM_fm p0 (FM.rfl.sc (by decide) _) (RM_gap p0.1 x1))) (fun z => h1 z _ (PM_code h FX.rfl 1))
theorem N_run {x1 x2 x3 : Int32} {Q : Wd → Prop} (h : RM S w m A) (hS : okS S) (hb3 : bw_b x3) (h1 : ¬ (∃ b, b < nB S ∧ x1 = nI b) → ∀ w', PM m A S 1 w w' → Q w') (h2 : (∃ b, b < nB S ∧ x1 = nI b) → ¬ rng x2 0 1000 → ∀ w', PM m A S 2 w w' → Q w')
    (h0 : ∀ b, b < nB S → x1 = nI b → rng x2 0 1000 → ∀ w', PM m A (um (um S 5 b x2) 6 b x3) 0 w w' → Q w') : wp_Mo_run e0 mi m x1 x2 x3 w Q := by
  have hm := h.1.1
  have hb8 := hS.1.1
  have T : ∀ c, ¬ c ≤ (0 : Int32) → Q (sI w m 0 c) → wb_Mo_run_29 e0 mi Q m x1 x2 x3 (some m) c w := fun c hc hq => by
    unfold wb_Mo_run_29
    exact ⟨m, rfl, hm, hm, fun y => absurd y (by rw [cd_e]; exact hc), fun _ => hq⟩
  unfold wp_Mo_run
  refine ⟨hm, M_isBelt h hS (fun z => ⟨fun y => absurd rfl y, fun _ => T 1 (by decide) (h1 z _ (PM_code h FX.rfl 1))⟩) (fun b hb hx => ⟨fun _ => mo_in (fun z => ⟨fun _ => ?_, fun y => absurd y (by decide)⟩) (fun z => ⟨fun y => absurd rfl y, fun _ => T 2 (by decide) (h2 ⟨b, hb, hx⟩ z _ (PM_code h FX.rfl 2))⟩), fun y => absurd y (by decide)⟩)⟩
  have p0 := PM_code h FX.rfl 0
  have c : (nI b).toNatClampNeg = b := nI_clamp (by omega)
  have hn3 : vp_nar .boolean x3 = x3 := by rcases hb3 with u | u <;> subst u <;> rfl
  unfold wb_Mo_run_29
  refine ⟨m, rfl, hm, hm, fun _ => ?_, fun y => absurd (by rw [cd_e]; decide) y⟩
  rw [hn3, hx, c]
  generalize sI w m 0 0 = u0 at p0 ⊢
  refine ldA p0.1.1 5 (n := 8) rfl (by decide) rfl rfl (by omega) ?_
  have R1 := RM_um p0.1 (k := 5) (i := b) (by unfold isInt; decide) x2
  have F1 := (FM.rfl (m := m) (A := A) (w := u0)).ar (k := 5) (by decide) (isM_ne h.1 (by decide)) b x2
  refine ldA R1.1 6 (n := 8) rfl (by decide) rfl rfl (by omega) ?_
  exact h0 b hb hx z _ (PM_fm p0 (F1.ar (by decide) (isM_ne h.1 (by decide)) b x3) (RM_um R1 (by unfold isInt; decide) x3))
theorem N_order {x1 : Int32} {Q : Int32 → Wd → Prop} (h : RM S w m A) (hl : (gos S).length ≤ 60) (h1 : ¬ (∃ j, j < (gos S).length ∧ x1 = nI j) → ∀ w', PM m A S 1 w w' → Q 0 w') (h0 : ∀ j i, (gos S)[j]? = some i → x1 = nI j → ∀ w', PM m A S 0 w w' → Q (nI i) w') : wp_Mo_order e0 mi m x1 w Q := by
  have hm := h.1.1
  unfold wp_Mo_order wb_Mo_order_20 wb_Mo_order_40
  have l29 : wI w m 29 = nI (gos S).length := h.2.2.1.2.2.2.2.2
  rw [l29]
  have key : rng x1 0 (nI (gos S).length - 1) ↔ ∃ b, b < (gos S).length ∧ x1 = nI b := by
    have e : (nI (gos S).length - 1).toInt = ((gos S).length : Int) - 1 := pk_sub_toInt (a := (gos S).length) (b := 1) (by omega) (by omega)
    have e0' : (0 : Int32).toInt = 0 := by decide
    unfold rng
    rw [Int32.lt_iff_toInt_lt, Int32.lt_iff_toInt_lt, e, e0']
    constructor
    · intro z
      rcases ix_cases x1 (n := (gos S).length) (by omega) with y | ⟨-, y⟩
      · exact y
      · exfalso
        rw [Int32.lt_iff_toInt_lt, Int32.lt_iff_toInt_lt, nI_toInt (by omega), e0'] at y
        omega
    · intro ⟨b, hb, hx⟩
      rw [hx, nI_toInt (by omega)]
      omega
  refine ⟨hm, mo_in (fun z => ⟨fun y => absurd y (by decide), fun _ => ⟨m, rfl, hm, hm, fun _ => ?_, fun y => absurd (by rw [cd_e]; decide) y⟩⟩) (fun z => ⟨fun _ => ⟨m, rfl, hm, hm, fun y => absurd y (cd_1 w m), fun _ => h1 (fun y => z (key.mpr y)) _ (PM_code h FX.rfl 1)⟩, fun y => absurd rfl y⟩)⟩
  obtain ⟨j, hj, hx⟩ := key.mp z
  have p0 := PM_code h FX.rfl 0
  have hy : (gos S)[j]? = some (gos S)[j] := List.getElem?_eq_getElem hj
  have hq := h0 j _ hy hx _ p0
  generalize sI w m 0 0 = u0 at p0 hq ⊢
  refine ldA p0.1.1 31 (n := 60) rfl (by decide) rfl hx (by omega) ?_
  rw [hx, nI_clamp (by omega), p0.1.2.2.2.2.2.2.2 j _ hy]
  exact hq
theorem N_mean {Q : Int32 → Wd → Prop} (h : RM S w m A) (hl : (gos S).length ≤ 60) (h1 : (gos S).length = 0 → ∀ w', PM m A S 1 w w' → Q 0 w') (h0 : ¬ (gos S).length = 0 → ∀ w', PM m A S 0 w w' → Q (mm S 30 0 / nI (gos S).length) w') : wp_Mo_mean e0 mi m w Q := by
  have hm := h.1.1
  unfold wp_Mo_mean wb_Mo_mean_13 wb_Mo_mean_36
  have l29 : wI w m 29 = nI (gos S).length := h.2.2.1.2.2.2.2.2
  have key : nI (gos S).length = 0 ↔ (gos S).length = 0 := ⟨fun z => (nI_eq (b := 0) (by omega) (by omega)).mp z, fun z => by rw [z]; rfl⟩
  rw [l29]
  refine ⟨hm, fun z => ⟨m, rfl, hm, hm, fun _ => ?_, fun y => absurd (by rw [cd_e]; decide) y⟩, fun z => ⟨m, rfl, hm, hm, fun y => absurd y (cd_1 w m), fun _ => h1 (key.mp z) _ (PM_code h FX.rfl 1)⟩⟩
  have p0 := PM_code h FX.rfl 0
  have l29' : wI (sI w m 0 0) m 29 = nI (gos S).length := p0.1.2.2.1.2.2.2.2.2
  have l30 : wI (sI w m 0 0) m 30 = mm S 30 0 := p0.1.2.1.2.2
  rw [l29', l30]
  exact ⟨z, h0 (fun y => z (key.mpr y)) _ p0⟩
theorem M_cnt : ∀ (n k : Nat) {x1 : Int32} {Q : Int32 → Wd → Prop}, RM S w m A → okS S → k + n = nB S → (¬ x1 = 2 → Q (-1) w) → (x1 = 2 → Q (nI (cntS S (nB S))) w) → wb_Mo_count_80 e0 mi Q (n + 1) m x1 (nI (cntS S k)) (nI k) w
  | 0, k, x1, Q, h, hS, hk, h1, h0 => by
    have hb8 := hS.1.1
    have : k = nB S := by omega
    subst this
    unfold wb_Mo_count_80 wb_Mo_count_113
    have l3 : wI w m 3 = nI (nB S) := h.2.2.1.1
    rw [l3]
    exact ⟨h.1.1, fun _ => ⟨h1, h0⟩, fun z => absurd (nI_le (Nat.le_refl _) (by omega)) z⟩
  | n + 1, k, x1, Q, h, hS, hk, h1, h0 => by
    have hb8 := hS.1.1
    unfold wb_Mo_count_80
    have l3 : wI w m 3 = nI (nB S) := h.2.2.1.1
    rw [l3]
    refine ⟨h.1.1, fun z => absurd z (nI_ge (by omega) (by omega)), fun _ => ldA h.1 10 (n := 8) rfl (by decide) rfl rfl (by omega) (fun i7 e7 i8 e8 => ?_)⟩
    rw [nI_clamp (by omega), (h.2.2.2.2.1 k (by omega)).1, nI_add] at e7
    rw [e7, e8, nI_1]
    exact M_cnt n (k + 1) h hS (by omega) h1 h0
theorem N_count {x1 : Int32} {Q : Int32 → Wd → Prop} (h : RM S w m A) (hS : okS S) (a0 : x1 = 0 → ∀ w', PM m A S 0 w w' → Q (nI (nB S)) w') (a1 : x1 = 1 → ∀ w', PM m A S 0 w w' → Q (nI (nT S)) w') (a2 : x1 = 2 → ∀ w', PM m A S 0 w w' → Q (nI (cntS S (nB S))) w') (a3 : x1 = 3 → ∀ w', PM m A S 0 w w' → Q (nI (gos S).length) w') (a4 : x1 = 4 → ∀ w', PM m A S 0 w w' → Q (nI (eds S).length) w') (a5 : x1 = 5 → ∀ w', PM m A S 0 w w' → Q (mm S 1 0) w') (a6 : x1 = 6 → ∀ w', PM m A S 0 w w' → Q (nI (nS S)) w') (a7 : x1 = 7 → ∀ w', PM m A S 0 w w' → Q (nI (wts S).length) w') (a8 : (x1.toInt < 0 ∨ 7 < x1.toInt) → ∀ w', PM m A S 0 w w' → Q (-1) w') : wp_Mo_count e0 mi m x1 w Q := by
  have hm := h.1.1
  have p0 := PM_code h FX.rfl 0
  unfold wp_Mo_count
  generalize sI w m 0 0 = u at p0 ⊢
  obtain ⟨g1, ⟨t1, t2, t30⟩, ⟨n3, n12, n21, n25, n27, n29⟩, -⟩ := p0.1
  rw [n25, n21, t1, n27, n29, n12, n3]
  refine ⟨hm, fun z0 => ⟨fun z1 => ⟨fun z3 => ⟨fun z4 => ⟨fun z5 => ⟨fun z6 => ⟨fun z7 => ⟨nB S + 1, M_cnt (nB S) 0 p0.1 hS (by omega) (fun z2 => a8 ?_ _ p0) (fun z => a2 z _ p0)⟩, fun z => a7 z _ p0⟩, fun z => a6 z _ p0⟩, fun z => a5 z _ p0⟩, fun z => a4 z _ p0⟩, fun z => a3 z _ p0⟩, fun z => a1 z _ p0⟩, fun z => a0 z _ p0⟩
  apply Decidable.byContradiction
  intro hn
  have e : ∀ (k : Int), x1.toInt = k → ∀ c : Int32, c.toInt = k → x1 = c := fun k h c hc => Int32.toInt_inj.mp (h.trans hc.symm)
  have hr : x1.toInt = 0 ∨ x1.toInt = 1 ∨ x1.toInt = 2 ∨ x1.toInt = 3 ∨ x1.toInt = 4 ∨ x1.toInt = 5 ∨ x1.toInt = 6 ∨ x1.toInt = 7 := by omega
  rcases hr with z | z | z | z | z | z | z | z
  · exact z0 (e _ z 0 (by decide))
  · exact z1 (e _ z 1 (by decide))
  · exact z2 (e _ z 2 (by decide))
  · exact z3 (e _ z 3 (by decide))
  · exact z4 (e _ z 4 (by decide))
  · exact z5 (e _ z 5 (by decide))
  · exact z6 (e _ z 6 (by decide))
  · exact z7 (e _ z 7 (by decide))
end MO
