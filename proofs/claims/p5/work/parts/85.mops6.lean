/-! CALLS OF THE REFERENCE: gap -/
section MO
variable {e0 mi m : Nat} {A : Nat → Nat} {S : St} {w : Wd}
theorem N_gap {x1 x2 : Int32} {Q : Int32 → Wd → Prop} (h : RM S w m A) (hS : okS S) (h1 : ¬ ((∃ i, 1 ≤ i ∧ i ≤ nT S ∧ x1 = nI i) ∧ (∃ i, 1 ≤ i ∧ i ≤ nT S ∧ x2 = nI i)) → ∀ w', PM m A S 1 w w' → Q 0 w')
    (h2 : ∀ i j, 1 ≤ i → i ≤ nT S → x1 = nI i → 1 ≤ j → j ≤ nT S → x2 = nI j → ¬ (mm S 13 i = 0 ∧ mm S 13 j = 0 ∧ ¬ i = j ∧ mm S 14 i = mm S 14 j) → ∀ w', PM m A S 2 w w' → Q 0 w')
    (h0 : ∀ i j, 1 ≤ i → i ≤ nT S → x1 = nI i → 1 ≤ j → j ≤ nT S → x2 = nI j → mm S 13 i = 0 → mm S 13 j = 0 → ¬ i = j → mm S 14 i = mm S 14 j → ∀ b p p2 : Nat, (rr S b)[p]? = some i → (rr S b)[p2]? = some j → ∀ w', PM m A S 0 w w' → Q (if p2 ≤ p then rearS S j - mm S 15 i else rearS S i - mm S 15 j) w') : wp_Mo_gap e0 mi m x1 x2 w Q := by
  have hm := h.1.1
  have hT := hS.1.2.1
  have T17 : Q 0 (sI w m 0 1) → wb_Mo_gap_17 e0 mi Q m x1 x2 (some m) w := fun hq => by
    unfold wb_Mo_gap_17 wb_Mo_gap_22 wb_Mo_gap_79
    exact ⟨m, rfl, hm, hm, fun _ => ⟨hm, fun y => absurd y (cd_1 w m), fun _ => hq⟩, fun y => absurd y (cd_1e w m)⟩
  unfold wp_Mo_gap
  refine ⟨hm, M_isItem h hS (fun z => ⟨fun _ => T17 (h1 (fun y => z y.1) _ (PM_code h FX.rfl 1)), fun y => absurd rfl y⟩) (fun i i1 i2' hx => ⟨fun y => absurd y (by decide), fun _ => ⟨hm, M_isItem h hS (fun z => ⟨fun y => absurd rfl y, fun _ => T17 (h1 (fun y => z y.2) _ (PM_code h FX.rfl 1))⟩) (fun j j1 j2 hy => ⟨fun _ => ?_, fun y => absurd y (by decide)⟩)⟩⟩)⟩
  have p0 := PM_code h FX.rfl 0
  have i61 : i < 61 := by omega
  have j61 : j < 61 := by omega
  have ci : (nI i).toNatClampNeg = i := nI_clamp (by omega)
  have cj : (nI j).toNatClampNeg = j := nI_clamp (by omega)
  have T71 : ∀ u, PM m A S 0 w u → ¬ (mm S 13 i = 0 ∧ mm S 13 j = 0 ∧ ¬ i = j ∧ mm S 14 i = mm S 14 j) → wb_Mo_gap_71 e0 mi Q m (nI i) (nI j) (some m) u := fun u pu hn => by
    unfold wb_Mo_gap_71 wb_Mo_gap_76 wb_Mo_gap_79
    exact ⟨m, rfl, pu.1.1.1, pu.1.1.1, fun y => absurd y (by rw [cd_e]; decide), fun _ => h2 i j i1 i2' hx j1 j2 hy hn _ (PM_code pu.1 pu.2.1 2)⟩
  unfold wb_Mo_gap_22
  refine ⟨m, rfl, hm, hm, fun y => absurd (cd_e w m 0) y, fun _ => ?_⟩
  generalize sI w m 0 0 = u at p0 ⊢
  have g := p0.1.2.2.2.1
  have vi13 := g 13 (by unfold isInt; decide) i i61
  have vj13 := g 13 (by unfold isInt; decide) j j61
  have vi14 := g 14 (by unfold isInt; decide) i i61
  have vj14 := g 14 (by unfold isInt; decide) j j61
  rw [hx, hy, ci, cj]
  obtain ⟨a, ha, ib, hv, ea⟩ := ldA p0.1.1 13 (P := fun a => a = A 13) (n := 61) rfl (by decide) rfl rfl j61 rfl
  subst ea
  refine ldA p0.1.1 13 (n := 61) rfl (by decide) rfl rfl i61 ?_
  rw [vi13, vj13]
  refine ⟨fun z => T71 u p0 (fun y => z y.1), fun z => ⟨hv, fun z2 => T71 u p0 (fun y => z2 y.2.1), fun z2 => ⟨fun z3 => T71 u p0 (fun y => y.2.2.1 ((nI_eq (by omega) (by omega)).mp z3)), fun z3 => ?_⟩⟩⟩
  have nij : ¬ i = j := fun y => z3 (by rw [y])
  obtain ⟨a, ha4, ib4, hv4, ea⟩ := ldA p0.1.1 14 (P := fun a => a = A 14) (n := 61) rfl (by decide) rfl rfl j61 rfl
  subst ea
  refine ldA p0.1.1 14 (n := 61) rfl (by decide) rfl rfl i61 ⟨hv4, ?_⟩
  rw [vi14, vj14]
  refine ⟨fun z4 => ?_, fun z4 => T71 u p0 (fun y => z4 y.2.2.2)⟩
  unfold wb_Mo_gap_76 wb_Mo_gap_79 wb_Mo_gap_128
  refine ⟨m, rfl, p0.1.1.1, p0.1.1.1, fun _ => ?_, fun y => absurd (by rw [cd_e]; decide) y⟩
  have p1 := PM_code p0.1 p0.2.1 0
  generalize sI u m 0 0 = u1 at p1 ⊢
  obtain ⟨b, p, hp⟩ := on_row hS i1 i2' z
  obtain ⟨b2, p2, hp2⟩ := on_row hS j1 j2 z2
  have hi := in_row hS (List.mem_of_getElem? hp)
  have hj := in_row hS (List.mem_of_getElem? hp2)
  have b8 : b < 8 := hi.2.2.2.2.2.2.1
  have b28 : b2 < 8 := hj.2.2.2.2.2.2.1
  have hbb : b2 = b := by
    have e := z4
    rw [hi.2.2.2.2.1, hj.2.2.2.2.1] at e
    exact ((nI_eq (by omega) (by omega)).mp e).symm
  subst hbb
  have hq := h0 i j i1 i2' hx j1 j2 hy z z2 nij z4 b2 p p2 hp hp2 _ p1
  have hlen := (okS_R hS b2 b8).1
  have hpl := (List.getElem?_eq_some_iff.mp hp).1
  have hpl2 := (List.getElem?_eq_some_iff.mp hp2).1
  have wi := p1.1.2.2.2.1 15 (by unfold isInt; decide) i i61
  have wj := p1.1.2.2.2.1 15 (by unfold isInt; decide) j j61
  refine M_indexOf p1.1 b8 i61 hi.2.2.2.2.1 hp (nodup_first (hS.2.2.2.1 b2) hp) (okS_R hS) ⟨p1.1.1.1, M_indexOf p1.1 b8 j61 hj.2.2.2.2.1 hp2 (nodup_first (hS.2.2.2.1 b2) hp2) (okS_R hS) ⟨fun q1 => ⟨p1.1.1.1, M_rear p1.1 j61 ⟨p1.1.1.1, ldA p1.1.1 15 (n := 61) rfl (by decide) rfl rfl i61 ?_⟩⟩, fun q1 => ⟨p1.1.1.1, M_rear p1.1 i61 ⟨p1.1.1.1, ldA p1.1.1 15 (n := 61) rfl (by decide) rfl rfl j61 ?_⟩⟩⟩⟩
  · rw [ci, wi]
    rcases Nat.lt_or_ge p p2 with y | y
    · exact absurd q1 (nI_ge y (by omega))
    · rw [if_pos y] at hq; exact hq
  · rw [cj, wj]
    rcases Nat.lt_or_ge p p2 with y | y
    · rw [if_neg (by omega)] at hq; exact hq
    · exact absurd (nI_le y (by omega)) q1
end MO
