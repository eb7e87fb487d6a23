/-! CALLS OF THE REFERENCE: slip -/
section MO
variable {e0 mi m : Nat} {A : Nat → Nat} {S : St} {w : Wd}
theorem N_slip {x1 x2 : Int32} {Q : Int32 → Wd → Prop} (h : RM S w m A) (hS : okS S) (h1 : ¬ (∃ i, 1 ≤ i ∧ i ≤ nT S ∧ x1 = nI i) → ∀ w', PM m A S 1 w w' → Q 0 w') (h2 : (∃ i, 1 ≤ i ∧ i ≤ nT S ∧ x1 = nI i) → ¬ rng x2 1 1000 → ∀ w', PM m A S 2 w w' → Q 0 w')
    (h3 : ∀ i, 1 ≤ i → i ≤ nT S → x1 = nI i → rng x2 1 1000 → ¬ mm S 13 i = 0 → ∀ w', PM m A S 3 w w' → Q 0 w')
    (h4 : ∀ i b p, (rr S b)[p]? = some i → x1 = nI i → rng x2 1 1000 → ¬ (x2 ≤ mm S 15 i ∧ slipOk S b p i x2) → ∀ w', PM m A S 3 w w' → Q 0 w')
    (h0 : ∀ i b p, (rr S b)[p]? = some i → x1 = nI i → rng x2 1 1000 → x2 ≤ mm S 15 i → slipOk S b p i x2 → ∀ w', PM m A (um S 15 i (mm S 15 i - x2)) 0 w w' → Q (mm S 15 i - x2) w') : wp_Mo_slip e0 mi m x1 x2 w Q := by
  have hm := h.1.1
  have hT := hS.1.2.1
  have T : ∀ c, ¬ c ≤ (0 : Int32) → ¬ c = 0 → Q 0 (sI w m 0 c) → wb_Mo_slip_29 e0 mi Q m x1 x2 (some m) c w := fun c hc hc0 hq => by
    unfold wb_Mo_slip_29 wb_Mo_slip_67
    exact ⟨m, rfl, hm, hm, fun _ => ⟨hm, fun y => absurd y (by rw [cd_e]; exact hc), fun _ => hq⟩, fun y => absurd y (by rw [cd_e]; exact hc0)⟩
  unfold wp_Mo_slip
  refine ⟨hm, M_isItem h hS (fun z => ⟨fun y => absurd rfl y, fun _ => T 1 (by decide) (by decide) (h1 z _ (PM_code h FX.rfl 1))⟩) (fun i i1 i2' hx => ⟨fun _ => mo_in (fun z => ⟨fun _ => ?_, fun y => absurd y (by decide)⟩) (fun z => ⟨fun y => absurd rfl y, fun _ => T 2 (by decide) (by decide) (h2 ⟨i, i1, i2', hx⟩ z _ (PM_code h FX.rfl 2))⟩), fun y => absurd y (by decide)⟩)⟩
  have p0 := PM_code h FX.rfl 0
  have i61 : i < 61 := by omega
  have c : (nI i).toNatClampNeg = i := nI_clamp (by omega)
  have T3 : ∀ u, PM m A S 0 w u → (∀ w', PM m A S 3 w w' → Q 0 w') → wb_Mo_slip_67 e0 mi Q m (nI i) x2 (sI u m 0 3) := fun u pu hq => by
    unfold wb_Mo_slip_67
    exact ⟨pu.1.1.1, fun y => absurd y (by rw [cd_e]; decide), fun _ => hq _ (PM_code pu.1 pu.2.1 3)⟩
  unfold wb_Mo_slip_29
  refine ⟨m, rfl, hm, hm, fun y => absurd (cd_e w m 0) y, fun _ => ?_⟩
  generalize sI w m 0 0 = u at p0 ⊢
  have v13 := p0.1.2.2.2.1 13 (by unfold isInt; decide) i i61
  have v15 := p0.1.2.2.2.1 15 (by unfold isInt; decide) i i61
  rw [hx, c]
  refine ldA p0.1.1 13 (n := 61) rfl (by decide) rfl rfl i61 ?_
  rw [v13]
  unfold wb_Mo_slip_59 wb_Mo_slip_64
  refine ⟨fun z2 => ⟨m, rfl, p0.1.1.1, T3 u p0 (h3 i i1 i2' hx z z2)⟩, fun z2 => ldA p0.1.1 15 (n := 61) rfl (by decide) rfl rfl i61 ?_⟩
  rw [v15]
  obtain ⟨b, p, hp⟩ := on_row hS i1 i2' z2
  have hi := in_row hS (List.mem_of_getElem? hp)
  have b8 : b < 8 := hi.2.2.2.2.2.2.1
  refine ⟨fun z3 => ⟨m, rfl, p0.1.1.1, ?_⟩, fun z3 => ⟨m, rfl, p0.1.1.1, T3 u p0 (h4 i b p hp hx z (fun y => z3 y.1))⟩⟩
  have p1 := PM_code p0.1 p0.2.1 0
  generalize sI u m 0 0 = u1 at p1 ⊢
  have g := p1.1.2.2.2.1
  have w15 := g 15 (by unfold isInt; decide) i i61
  have w14 := g 14 (by unfold isInt; decide) i i61
  rw [hi.2.2.2.2.1] at w14
  have T140 : ∀ k, slipOk S b p i x2 → wb_Mo_slip_140 e0 mi Q m (nI i) x2 k u1 := fun k hok => by
    unfold wb_Mo_slip_140
    obtain ⟨a, ha, ib, hv, ea⟩ := ldA p1.1.1 15 (P := fun a => a = A 15) (n := 61) rfl (by decide) rfl rfl i61 rfl
    subst ea
    refine ⟨p1.1.1.1, fun _ => ⟨A 15, ha, ib, hv, hv, ?_⟩, fun y => absurd (by rw [p1.2.2]; decide) y⟩
    have R1 := RM_um p1.1 (k := 15) (i := i) (by unfold isInt; decide) (mm S 15 i - x2)
    rw [c, w15]
    refine ldA R1.1 15 (n := 61) rfl (by decide) rfl rfl i61 ?_
    rw [pI_I, if_pos ⟨rfl, rfl⟩]
    exact h0 i b p hp hx z z3 hok _ (PM_fm p1 (FM.rfl.ar (by decide) (isM_ne h.1 (by decide)) i _) R1)
  unfold wb_Mo_slip_67
  refine ⟨p1.1.1.1, fun _ => ?_, fun y => absurd (by rw [p1.2.2]; decide) y⟩
  refine M_indexOf p1.1 b8 i61 hi.2.2.2.2.1 hp (nodup_first (hS.2.2.2.1 b) hp) (okS_R hS) (fun i10 e10 => ?_)
  rw [nI_1] at e10
  subst e10
  have cb : (nI b).toNatClampNeg = b := nI_clamp (by omega)
  have hlen := (okS_R hS b b8).1
  have hpl := (List.getElem?_eq_some_iff.mp hp).1
  have s10 := (p1.1.2.2.2.2.1 b b8).1
  refine ⟨p1.1.1.1, ldA p1.1.1 14 (n := 61) rfl (by decide) rfl rfl i61 ?_⟩
  rw [c, w14, cb]
  refine ldA p1.1.1 10 (n := 8) rfl (by decide) rfl rfl b8 ?_
  rw [s10]
  refine ⟨fun z4 => T140 _ (fun j hj => ?_), fun z4 => M_rear p1.1 i61 ⟨p1.1.1.1, ldA p1.1.1 14 (n := 61) rfl (by decide) rfl rfl i61 ?_⟩⟩
  · exfalso
    have := (List.getElem?_eq_some_iff.mp hj).1
    exact nI_ge this (by omega) z4
  · have hlt : p + 1 < (rr S b).length := by
      rcases Nat.lt_or_ge (p + 1) (rr S b).length with y | y
      · exact y
      · exact absurd (nI_le y (by omega)) z4
    have hn : (rr S b)[p + 1]? = some (rr S b)[p + 1] := List.getElem?_eq_getElem hlt
    have v11 := (p1.1.2.2.2.2.1 b b8).2 (p + 1) _ hn
    have hj := in_row hS (List.mem_of_getElem? hn)
    generalize (rr S b)[p + 1] = j at hn v11 hj
    have j61 : j < 61 := by omega
    have cj : (nI j).toNatClampNeg = j := nI_clamp (by omega)
    rw [w14, i60', nI_add]
    refine ldA p1.1.1 11 (n := 480) rfl (by decide) rfl rfl (by omega) ?_
    rw [nI_clamp (by omega), v11, cj]
    refine ldA p1.1.1 15 (n := 61) rfl (by decide) rfl rfl j61 ?_
    have t2 : wI u1 m 2 = mm S 2 0 := p1.1.2.1.2.1
    rw [t2, g 15 (by unfold isInt; decide) j j61]
    refine ⟨fun y => T140 _ (fun k hk => ?_), fun y => ?_⟩
    · rw [hn] at hk
      cases hk
      exact y
    · unfold wb_Mo_slip_140
      exact ⟨p1.1.1.1, fun y => absurd y (by rw [cd_e]; decide), fun _ => h4 i b p hp hx z (fun v => y (v.2 j hn)) _ (PM_code p1.1 p1.2.1 3)⟩
end MO
