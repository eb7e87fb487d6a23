/-! CALLS OF THE REFERENCE: edge, known, scanner, step -/
section MO
variable {e0 mi m : Nat} {A : Nat → Nat} {S : St} {w : Wd}
theorem N_edge {x1 x2 : Int32} {Q : Int32 → Wd → Prop} (h : RM S w m A) (hS : okS S) (hl : (eds S).length < 5000) (h1 : ¬ (∃ j, j < (eds S).length ∧ x1 = nI j) → ∀ w', PM m A S 1 w w' → Q 0 w')
    (h2 : (∃ j, j < (eds S).length ∧ x1 = nI j) → (x2.toInt < 0 ∨ 3 < x2.toInt) → ∀ w', PM m A S 2 w w' → Q 0 w')
    (h0 : ∀ j e, (eds S)[j]? = some e → x1 = nI j → ∀ w', PM m A S 0 w w' → (x2 = 0 → Q e.1 w') ∧ (x2 = 1 → Q (nI e.2.1) w') ∧ (x2 = 2 → Q (nI e.2.2.1) w') ∧ (x2 = 3 → Q (nI e.2.2.2) w')) : wp_Mo_edge e0 mi m x1 x2 w Q := by
  have hm := h.1.1
  have T : ∀ c, ¬ c ≤ (0 : Int32) → Q 0 (sI w m 0 c) → wb_Mo_edge_33 e0 mi Q m x1 x2 (some m) c w := fun c hc hq => by
    unfold wb_Mo_edge_33
    exact ⟨m, rfl, hm, hm, fun y => absurd y (by rw [cd_e]; exact hc), fun _ => hq⟩
  unfold wp_Mo_edge
  have l27 : wI w m 27 = nI (eds S).length := h.2.2.1.2.2.2.2.1
  rw [l27]
  have key : rng x1 0 (nI (eds S).length - 1) ↔ ∃ b, b < (eds S).length ∧ x1 = nI b := by
    have e : (nI (eds S).length - 1).toInt = ((eds S).length : Int) - 1 := pk_sub_toInt (a := (eds S).length) (b := 1) (by omega) (by omega)
    have e0' : (0 : Int32).toInt = 0 := by decide
    unfold rng
    rw [Int32.lt_iff_toInt_lt, Int32.lt_iff_toInt_lt, e, e0']
    constructor
    · intro z
      rcases ix_cases x1 (n := (eds S).length) (by omega) with y | ⟨-, y⟩
      · exact y
      · exfalso
        rw [Int32.lt_iff_toInt_lt, Int32.lt_iff_toInt_lt, nI_toInt (by omega), e0'] at y
        omega
    · intro ⟨b, hb, hx⟩
      rw [hx, nI_toInt (by omega)]
      omega
  refine ⟨hm, mo_in (fun z => ⟨fun _ => mo_in (fun z2 => ⟨fun _ => ?_, fun y => absurd y (by decide)⟩) (fun z2 => ⟨fun y => absurd rfl y, fun _ => T 2 (by decide) (h2 (key.mp z) ((rng_out (n := 3) (by decide)).mp z2) _ (PM_code h FX.rfl 2))⟩), fun y => absurd y (by decide)⟩) (fun z => ⟨fun y => absurd rfl y, fun _ => T 1 (by decide) (h1 (fun y => z (key.mpr y)) _ (PM_code h FX.rfl 1))⟩)⟩
  obtain ⟨j, hj, hx⟩ := key.mp z
  have p0 := PM_code h FX.rfl 0
  have hy : (eds S)[j]? = some (eds S)[j] := List.getElem?_eq_getElem hj
  obtain ⟨a0, a1, a2, a3⟩ := h0 j _ hy hx _ p0
  have hok := hS.2.2.2.2.2.2.2.2.2 _ (List.mem_of_getElem? hy)
  have vj := p0.1.2.2.2.2.2.2.1 j _ hy
  generalize (eds S)[j] = ee at vj hok a0 a1 a2 a3
  obtain ⟨t, kd, i, o⟩ := ee
  obtain ⟨k3, k60, k8⟩ := hok
  replace k3 : kd < 3 := k3
  replace k60 : i ≤ 60 := k60
  replace k8 : o < 8 := k8
  have c : (nI j).toNatClampNeg = j := nI_clamp (by omega)
  obtain ⟨y2, hy2, hx2⟩ := w7 x2 (fun _ => True) (n := 3) (by decide) z2
  unfold wb_Mo_edge_33 wb_Mo_edge_113
  refine ⟨m, rfl, hm, hm, fun _ => ?_, fun y => absurd (by rw [cd_e]; decide) y⟩
  generalize sI w m 0 0 = u at p0 vj a0 a1 a2 a3 ⊢
  rw [hx, c]
  refine ⟨fun n0 => ⟨fun n1 => ⟨fun n2 => ldA p0.1.1 28 (n := 6000) rfl (by decide) rfl rfl (by omega) ?_, fun y => ldA p0.1.1 28 (n := 6000) rfl (by decide) rfl rfl (by omega) ?_⟩, fun y => ldA p0.1.1 28 (n := 6000) rfl (by decide) rfl rfl (by omega) ?_⟩, fun y => ldA p0.1.1 28 (n := 6000) rfl (by decide) rfl rfl (by omega) ?_⟩
  · rw [vj, pk_where t k3 k60 k8]
    have : x2 = 3 := by
      rw [hx2] at n0 n1 n2 ⊢
      have : y2 = 0 ∨ y2 = 1 ∨ y2 = 2 ∨ y2 = 3 := by omega
      rcases this with u | u | u | u <;> subst u
      · exact absurd rfl n0
      · exact absurd rfl n1
      · exact absurd rfl n2
      · rfl
    exact a3 this
  · rw [vj, pk_item t k3 k60 k8]; exact a2 y
  · rw [vj, pk_kind t k3 k60 k8]; exact a1 y
  · rw [vj, pk_time t k3 k60 k8]; exact a0 y
theorem N_known {x1 x2 : Int32} {Q : Int32 → Wd → Prop} (h : RM S w m A) (hS : okS S) (h1 : ¬ (∃ b, b < nB S ∧ x1 = nI b) → ∀ w', PM m A S 1 w w' → Q 0 w')
    (h2 : (∃ b, b < nB S ∧ x1 = nI b) → (x2.toInt < 0 ∨ 8 < x2.toInt) → ∀ w', PM m A S 2 w w' → Q 0 w')
    (h0 : ∀ b, b < nB S → x1 = nI b → ∀ w', PM m A S 0 w w' → (x2 = 0 → Q (mm S 4 b) w') ∧ (x2 = 1 → Q (mm S 5 b) w') ∧ (x2 = 2 → Q (if mm S 6 b = 0 then 0 else 1) w') ∧ (x2 = 3 → Q (nI (rr S b).length) w') ∧ (x2 = 4 → Q (enc ((rr S b)[0]?)) w') ∧ (x2 = 5 → Q (mm S 7 (2 * b)) w') ∧ (x2 = 6 → Q (mm S 7 (2 * b + 1)) w') ∧ (x2 = 7 → Q (mm S 9 (2 * b)) w') ∧ (x2 = 8 → Q (mm S 9 (2 * b + 1)) w')) : wp_Mo_known e0 mi m x1 x2 w Q := by
  have hm := h.1.1
  have hb8 := hS.1.1
  have T : ∀ c, ¬ c ≤ (0 : Int32) → Q 0 (sI w m 0 c) → wb_Mo_known_28 e0 mi Q m x1 x2 (some m) c w := fun c hc hq => by
    unfold wb_Mo_known_28
    exact ⟨m, rfl, hm, hm, fun y => absurd y (by rw [cd_e]; exact hc), fun _ => hq⟩
  unfold wp_Mo_known
  refine ⟨hm, M_isBelt h hS (fun z => ⟨fun y => absurd rfl y, fun _ => T 1 (by decide) (h1 z _ (PM_code h FX.rfl 1))⟩) (fun b hb hx => ⟨fun _ => mo_in (fun z => ⟨fun _ => ?_, fun y => absurd y (by decide)⟩) (fun z => ⟨fun y => absurd rfl y, fun _ => T 2 (by decide) (h2 ⟨b, hb, hx⟩ ((rng_out (n := 8) (by decide)).mp z) _ (PM_code h FX.rfl 2))⟩), fun y => absurd y (by decide)⟩)⟩
  have p0 := PM_code h FX.rfl 0
  obtain ⟨a0, a1, a2, a3, a4, a5, a6, a7, a8⟩ := h0 b hb hx _ p0
  have b8 : b < 8 := by omega
  have c : (nI b).toNatClampNeg = b := nI_clamp (by omega)
  obtain ⟨y2, hy2, hx2⟩ := w7 x2 (fun _ => True) (n := 8) (by decide) z
  unfold wb_Mo_known_28 wb_Mo_known_82 wb_Mo_known_122 wb_Mo_known_157
  refine ⟨m, rfl, hm, hm, fun _ => ?_, fun y => absurd (by rw [cd_e]; decide) y⟩
  generalize sI w m 0 0 = u at p0 a0 a1 a2 a3 a4 a5 a6 a7 a8 ⊢
  have g := p0.1.2.2.2.1
  have s10 := (p0.1.2.2.2.2.1 b b8).1
  have hlen := (okS_R hS b b8).1
  rw [hx, c, i60', hx2]
  refine ⟨fun n0 => ⟨fun n1 => ⟨fun n2 => ⟨fun n3 => ⟨fun n4 => ⟨fun q7 => ?_, fun q7 => ?_⟩, fun y => ldA p0.1.1 10 (n := 8) rfl (by decide) rfl rfl b8 ?_⟩, fun y => ldA p0.1.1 10 (n := 8) rfl (by decide) rfl rfl b8 ?_⟩, fun y => ldA p0.1.1 6 (n := 8) rfl (by decide) rfl rfl b8 ?_⟩, fun y => ldA p0.1.1 5 (n := 8) rfl (by decide) rfl rfl b8 ?_⟩, fun y => ldA p0.1.1 4 (n := 8) rfl (by decide) rfl rfl b8 ?_⟩
  · have h7 : 7 ≤ y2 := by
      rcases Nat.lt_or_ge y2 7 with v | v
      · exact absurd q7 (nI_ge (b := 7) v (by omega))
      · exact v
    have e : ((2 : Int32) * nI b + nI y2) - 7 = nI (2 * b + (y2 - 7)) := by
      rw [i2, show (7 : Int32) = nI 7 from rfl, pk_sub (by omega)]
      congr 1; omega
    refine ldA p0.1.1 9 (n := 16) rfl (by decide) rfl e (by omega) ?_
    rw [e, nI_clamp (by omega), g 9 (by unfold isInt; decide) _ (show 2 * b + (y2 - 7) < 16 by omega)]
    have : y2 = 7 ∨ y2 = 8 := by omega
    rcases this with v | v
    · subst v; exact a7 hx2
    · subst v; exact a8 hx2
  · have h7 : y2 < 7 := by
      rcases Nat.lt_or_ge y2 7 with v | v
      · exact v
      · exact absurd (nI_le (a := 7) v (by omega)) q7
    have h5 : 5 ≤ y2 := by
      rcases Nat.lt_or_ge y2 5 with v | v
      · exfalso
        have : y2 = 0 ∨ y2 = 1 ∨ y2 = 2 ∨ y2 = 3 ∨ y2 = 4 := by omega
        rcases this with r | r | r | r | r <;> subst r
        · exact n0 rfl
        · exact n1 rfl
        · exact n2 rfl
        · exact n3 rfl
        · exact n4 rfl
      · exact v
    have e : ((2 : Int32) * nI b + nI y2) - 5 = nI (2 * b + (y2 - 5)) := by
      rw [i2, show (5 : Int32) = nI 5 from rfl, pk_sub (by omega)]
      congr 1; omega
    refine ldA p0.1.1 7 (n := 16) rfl (by decide) rfl e (by omega) ?_
    rw [e, nI_clamp (by omega), g 7 (by unfold isInt; decide) _ (show 2 * b + (y2 - 5) < 16 by omega)]
    have : y2 = 5 ∨ y2 = 6 := by omega
    rcases this with v | v
    · subst v; exact a5 hx2
    · subst v; exact a6 hx2
  · rw [s10]
    have := a4 (hx2.trans y)
    cases hf : rr S b with
    | nil =>
      rw [hf] at this
      exact ⟨fun v => absurd rfl v, fun _ => this⟩
    | cons i t =>
      have h0' : (rr S b)[0]? = some i := by rw [hf]; rfl
      have v0 := (p0.1.2.2.2.2.1 b b8).2 0 i h0'
      rw [hf] at this hlen
      refine ⟨fun _ => ldA p0.1.1 11 (n := 480) rfl (by decide) rfl rfl (by omega) ?_, fun v => absurd v (nI_ne0 (by simp) (by omega))⟩
      rw [nI_clamp (by omega), show 60 * b = 60 * b + 0 from rfl, v0]
      exact this
  · rw [s10]; exact a3 (hx2.trans y)
  · rw [g 6 (by unfold isInt; decide) b b8]
    have := a2 (hx2.trans y)
    refine ⟨fun v => ?_, fun v => ?_⟩
    · rw [if_pos v] at this; exact this
    · rw [if_neg v] at this; exact this
  · rw [g 5 (by unfold isInt; decide) b b8]; exact a1 (hx2.trans y)
  · rw [g 4 (by unfold isInt; decide) b b8]; exact a0 (hx2.trans y)
theorem N_step {x1 : Int32} {Q : Int32 → Wd → Prop} (h : RM S w m A) (hS : okS S) (hphi : Phi S < 2900) (h1 : ¬ rng x1 0 100 → ∀ w', PM m A S 1 w w' → Q 0 w')
    (h0 : ∀ k, k ≤ 100 → x1 = nI k → ∀ w', PM m A (stepsS S k) 0 w w' → Q (nI (eds (stepsS S k)).length - nI (eds S).length) w') : wp_Mo_step e0 mi m x1 w Q := by
  have p0 := PM_code h FX.rfl 0
  exact M_step h hS (fun z => h1 z _ (PM_code h FX.rfl 1)) (fun k _ _ => few_of_phi hS hphi k) (fun k hk hx w' R' F' => h0 k hk hx w' (PM_fm p0 F' R'))
end MO
