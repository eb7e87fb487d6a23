/-! ONE CALL ON NEW OBJECTS -/
set_option maxHeartbeats 4000000 in
theorem one_call {e0 mi q m r nc ns : Nat} {xs : Nat → Int32} {w : Wd} (hc : 10 ≤ nc) (hs : 100 ≤ ns) (h : atStart e0 w q m r) : wb_La_law_23 e0 mi 5 xs 2 (some q) (some m) (some r) 0 w nc ns := by
  obtain ⟨A, B, hC, hM, hZ, -, hR, -⟩ := h
  have eC1 := eC_of hC
  have hm := hM.1
  have z0 : ∀ j, j ≠ 2 → wI w m j = 0 := fun j hj => by rw [hZ, if_neg hj]
  have END : ∀ (x1 x2 x3 : Option Nat) (w : Wd) (nc ns : Nat), wb_La_law_1225 e0 mi (wb_La_law_23 e0 mi 5 xs 1) 5 xs x1 x2 x3 0 w nc ns := fun x1 x2 x3 w nc ns => by
    unfold wb_La_law_1225 wb_La_law_23
    intro i1 e1
    subst e1
    exact ⟨fun _ => trivial, fun z => absurd (by decide) z⟩
  have v0 : vp_in (0 : Int32) 5 := by unfold vp_in; decide
  have v1 : vp_in ((0 : Int32) + 1) 5 := by unfold vp_in; decide
  have v2 : vp_in ((0 : Int32) + 2) 5 := by unfold vp_in; decide
  have v3 : vp_in ((0 : Int32) + 3) 5 := by unfold vp_in; decide
  have v4 : vp_in ((0 : Int32) + 4) 5 := by unfold vp_in; decide
  have n10 : ¬ (1 : Int32) = 0 := by decide
  unfold wb_La_law_23 wp_Mo_thrown
  refine ⟨fun z => trivial, fun _ => ⟨v0, ?_⟩⟩
  refine ⟨fun _ => ⟨v1, v2, nc, ns, Nat.le_refl _, Nat.le_refl _, eL_belt hC hR (by omega) (by omega) (fun hn => ⟨v1, v2, m, rfl, hm, M_belt hM (z0 3 (by decide)) (by decide) (fun _ => ⟨hm, hm, fun _ => ⟨fun _ => END _ _ _ _ _ _, fun z => absurd z n10⟩, fun z => absurd (cd_e _ _ _) z⟩) (fun hy => absurd hy hn) (fun hy => absurd hy hn)⟩) (fun hy w' hf => ?_)⟩, ?_⟩
  · have hM' := isM_C hM hf
    have hR' := isRes_C hR hf
    have f3 : wI (sJ w' r 0 0) m 3 = nI 0 := by
      show wI w' m 3 = nI 0
      rw [((hf m hm.1).2.2.2 (Or.inl hm.2)).1, z0 3 (by decide)]; rfl
    have hN : ∀ u, eqJ (sJ w' r 0 0) u → wI u m 0 = 0 → bw_is u m 6 ∧ bw_is u m 6 ∧ (wI u m 0 = 0 → (¬ (0 : Int32) = 0 → wb_La_law_189 e0 mi (wb_La_law_23 e0 mi 5 xs 1) 5 xs (some q) (some m) (some r) 0 0 (nI 0) u (nc - nc) (ns - ns)) ∧ ((0 : Int32) = 0 → ∃ a34 : Nat, some r = some a34 ∧ bw_is u a34 102 ∧ vp_in (0 : Int32) (wN u a34) ∧ (lg_cmp (wJ u a34 (0 : Int32).toNatClampNeg) (nI 0).toInt64 = 0 → wb_La_law_189 e0 mi (wb_La_law_23 e0 mi 5 xs 1) 5 xs (some q) (some m) (some r) 0 0 (nI 0) u (nc - nc) (ns - ns)) ∧ (¬ lg_cmp (wJ u a34 (0 : Int32).toNatClampNeg) (nI 0).toInt64 = 0 → False))) ∧ (¬ wI u m 0 = 0 → False) := fun u hu h0 => by
      have hJ : wJ u r (0 : Int32).toNatClampNeg = 0 := by
        rw [hu.2.2.2.1]
        show wJ (sJ w' r 0 0) r 0 = 0
        rw [pJ_J, if_pos ⟨rfl, rfl⟩]
      refine ⟨hu.is hM'.1, hu.is hM'.1, fun _ => ⟨fun z => absurd rfl z, fun _ => ⟨r, rfl, hu.is hR'.1, ?_, fun _ => END _ _ _ _ _ _, fun z => z (by rw [hJ]; decide)⟩⟩, fun z => z h0⟩
      rw [hu.2.2.2.2]
      show vp_in (0 : Int32) (wN w' r)
      rw [hR'.2]; exact vp_in_nI (n := 0) (by decide) (by decide)
    refine ⟨v1, v2, m, rfl, hM'.1, M_belt (b := 0) (A := A) hM' f3 (by decide) (fun hn => absurd hy hn) (fun _ z => absurd z (by decide)) (fun _ _ => hN _ ?_ ?_)⟩
    · exact (((((((eqJ.rfl.sI _ _ _).sI _ _ _).sI _ _ _).sI _ _ _).sI _ _ _).sI _ _ _).sI _ _ _)
    · have nn : ∀ k, 0 < mKd k → ∀ (u : Wd) (i : Nat) (v : Int32), wI (sI u (A k) i v) m 0 = wI u m 0 := fun k hk u i v => by rw [pI_I, if_neg (fun z => isM_ne hM' hk z.1.symm)]
      rw [pI_I, if_neg (fun z => by simp at z), nn 7 (by decide), nn 7 (by decide), nn 6 (by decide), nn 5 (by decide), nn 4 (by decide), cd_e]
  refine ⟨fun _ => ⟨v1, v2, v3, v4, nc, ns, Nat.le_refl _, Nat.le_refl _, eL_join eC1 (by omega) (by omega) ⟨v1, v2, v3, v4, m, rfl, hm, eM_join hm (z0 _ (by decide)) ⟨hm, hm, fun _ => ⟨fun _ => END _ _ _ _ _ _, fun z => absurd z n10⟩, fun z => absurd (cd_e _ _ _) z⟩⟩⟩, ?_⟩
  have hrun : ∀ z3 : Int32, wb_La_law_311 e0 mi (wb_La_law_23 e0 mi 5 xs 1) 5 xs (some q) (some m) (some r) 0 (some q) (xs ((0 : Int32) + 1).toNatClampNeg) (xs ((0 : Int32) + 2).toNatClampNeg) z3 w nc ns := fun z3 => by
    unfold wb_La_law_311 wb_La_law_343 wp_Mo_thrown
    exact ⟨nc, ns, Nat.le_refl _, Nat.le_refl _, eL_run eC1 (by omega) (by omega) ⟨v1, v2, v3, fun _ => ⟨m, rfl, hm, eM_run hm (z0 _ (by decide)) ⟨m, rfl, hm, hm, fun _ => END _ _ _ _ _ _, fun z => absurd (cd_e _ _ _) z⟩⟩, fun _ => ⟨m, rfl, hm, eM_run hm (z0 _ (by decide)) ⟨m, rfl, hm, hm, fun _ => END _ _ _ _ _ _, fun z => absurd (cd_e _ _ _) z⟩⟩⟩⟩
  refine ⟨fun _ => ⟨v1, v2, v3, fun _ => hrun _, fun _ => hrun _⟩, ?_⟩
  refine ⟨fun _ => ⟨v1, nc, ns, Nat.le_refl _, Nat.le_refl _, eL_gaps eC1 (by omega) (by omega) (fun hn => ⟨v1, m, rfl, hm, eM_gaps hm (fun hy => absurd hy hn) (fun _ => ⟨hm, hm, fun _ => END _ _ _ _ _ _, fun z => absurd (cd_e _ _ _) z⟩)⟩) (fun hy w' hf => ⟨v1, m, rfl, (isM_C hM hf).1, eM_gaps (isM_C hM hf).1 (fun _ => ⟨(isM_C hM hf).1, (isM_C hM hf).1, fun _ => END _ _ _ _ _ _, fun z => absurd (by rw [pI_I, if_neg (fun z => by simp at z), cd_e]) z⟩) (fun hn => absurd hy hn)⟩)⟩, ?_⟩
  refine ⟨fun _ => ⟨v1, v2, v3, nc, ns, Nat.le_refl _, Nat.le_refl _, eL_scanner eC1 (by omega) (by omega) ⟨v1, v2, v3, m, rfl, hm, eM_scanner hm (z0 _ (by decide)) ⟨hm, hm, fun _ => ⟨fun _ => END _ _ _ _ _ _, fun z => absurd z n10⟩, fun z => absurd (cd_e _ _ _) z⟩⟩⟩, ?_⟩
  refine ⟨fun _ => ⟨v1, v2, nc, ns, Nat.le_refl _, Nat.le_refl _, eL_item eC1 (by omega) (by omega) ⟨v1, v2, m, rfl, hm, eM_item hm (z0 _ (by decide)) ⟨hm, hm, fun _ => ⟨fun _ => END _ _ _ _ _ _, fun z => absurd z n10⟩, fun z => absurd (cd_e _ _ _) z⟩⟩⟩, ?_⟩
  refine ⟨fun _ => ⟨v1, v2, nc, ns, Nat.le_refl _, Nat.le_refl _, eL_divert eC1 (by omega) (by omega) ⟨v1, v2, m, rfl, hm, eM_divert hm (z0 _ (by decide)) ⟨hm, hm, fun _ => ⟨fun _ => END _ _ _ _ _ _, fun z => absurd z n10⟩, fun z => absurd (cd_e _ _ _) z⟩⟩⟩, ?_⟩
  refine ⟨fun _ => ⟨v1, nc, ns, Nat.le_refl _, Nat.le_refl _, eL_step eC1 hR (by omega) (by omega) (fun hn => ⟨v1, m, rfl, hm, eM_step hm (z0 _ (by decide)) (z0 _ (by decide)) (z0 _ (by decide)) (fun hy => absurd hy hn) (fun _ => ⟨hm, hm, fun _ => ⟨fun _ => END _ _ _ _ _ _, fun z => absurd z n10⟩, fun z => absurd (cd_e _ _ _) z⟩)⟩) (fun hy w' hf => ?_)⟩, ?_⟩
  · have hM' := isM_C hM hf
    have hR' := isRes_C hR hf
    have hI : wI (sJ w' r 0 0) m = wI w m := ((hf m hm.1).2.2.2 (Or.inl hm.2)).1
    refine ⟨v1, m, rfl, hM'.1, eM_step hM'.1 (by rw [hI]; exact z0 _ (by decide)) (by rw [hI]; exact z0 _ (by decide)) (by rw [hI]; exact z0 _ (by decide)) (fun _ u hu h0 => ?_) (fun hn => absurd hy hn)⟩
    have hJ : wJ u r (0 : Int32).toNatClampNeg = 0 := by
      rw [hu.2.2.2.1]
      show wJ (sJ w' r 0 0) r 0 = 0
      rw [pJ_J, if_pos ⟨rfl, rfl⟩]
    refine ⟨hu.is hM'.1, hu.is hM'.1, fun _ => ⟨fun z => absurd rfl z, fun _ => ⟨r, rfl, hu.is hR'.1, ?_, fun _ => END _ _ _ _ _ _, fun z => z (by rw [hJ]; decide)⟩⟩, fun z => z h0⟩
    rw [hu.2.2.2.2]
    show vp_in (0 : Int32) (wN w' r)
    rw [hR'.2]; exact vp_in_nI (n := 0) (by decide) (by decide)
  refine ⟨fun _ => ⟨v1, v2, nc, ns, Nat.le_refl _, Nat.le_refl _, eL_edge eC1 (by omega) (by omega) ⟨v1, v2, m, rfl, hm, eM_edge hm (z0 _ (by decide)) ⟨hm, hm, fun _ => ⟨fun _ => END _ _ _ _ _ _, fun z => absurd z n10⟩, fun z => absurd (cd_e _ _ _) z⟩⟩⟩, ?_⟩
  refine ⟨fun _ => ⟨v1, v2, nc, ns, Nat.le_refl _, Nat.le_refl _, eL_slip eC1 (by omega) (by omega) ⟨v1, v2, m, rfl, hm, eM_slip hm (z0 _ (by decide)) ⟨hm, hm, fun _ => ⟨fun _ => END _ _ _ _ _ _, fun z => absurd z n10⟩, fun z => absurd (cd_e _ _ _) z⟩⟩⟩, ?_⟩
  refine ⟨fun _ => ⟨v1, nc, ns, Nat.le_refl _, Nat.le_refl _, eL_take eC1 (by omega) (by omega) ⟨v1, m, rfl, hm, eM_take hm (z0 _ (by decide)) ⟨hm, hm, fun _ => END _ _ _ _ _ _, fun z => absurd (cd_e _ _ _) z⟩⟩⟩, ?_⟩
  refine ⟨fun _ => ⟨v1, nc, ns, Nat.le_refl _, Nat.le_refl _, eL_clean eC1 (by omega) (by omega) ⟨v1, m, rfl, hm, eM_clean hm (z0 _ (by decide)) ⟨hm, hm, fun _ => ⟨fun _ => END _ _ _ _ _ _, fun z => absurd z n10⟩, fun z => absurd (cd_e _ _ _) z⟩⟩⟩, ?_⟩
  refine ⟨fun _ => ⟨v1, v2, nc, ns, Nat.le_refl _, Nat.le_refl _, eL_gap eC1 (by omega) (by omega) ⟨v1, v2, m, rfl, hm, eM_gap hm (z0 _ (by decide)) ⟨hm, hm, fun _ => ⟨fun _ => END _ _ _ _ _ _, fun z => absurd z n10⟩, fun z => absurd (cd_e _ _ _) z⟩⟩⟩, ?_⟩
  refine ⟨fun _ => ⟨v1, v2, nc, ns, Nat.le_refl _, Nat.le_refl _, eL_told eC1 (by omega) (by omega) ⟨v1, v2, m, rfl, hm, eM_told hm (z0 _ (by decide)) ⟨hm, hm, fun _ => ⟨fun _ => END _ _ _ _ _ _, fun z => absurd z n10⟩, fun z => absurd (cd_e _ _ _) z⟩⟩⟩, ?_⟩
  refine ⟨fun _ => ⟨v1, v2, nc, ns, Nat.le_refl _, Nat.le_refl _, eL_known eC1 (by omega) (by omega) ⟨v1, v2, m, rfl, hm, eM_known hm (z0 _ (by decide)) ⟨hm, hm, fun _ => ⟨fun _ => END _ _ _ _ _ _, fun z => absurd z n10⟩, fun z => absurd (cd_e _ _ _) z⟩⟩⟩, ?_⟩
  refine ⟨fun _ => ⟨v1, nc, ns, Nat.le_refl _, Nat.le_refl _, eL_order eC1 (by omega) (by omega) ⟨v1, m, rfl, hm, eM_order hm (z0 _ (by decide)) ⟨hm, hm, fun _ => ⟨fun _ => END _ _ _ _ _ _, fun z => absurd z n10⟩, fun z => absurd (cd_e _ _ _) z⟩⟩⟩, ?_⟩
  refine ⟨fun _ => ⟨nc, ns, Nat.le_refl _, Nat.le_refl _, eL_mean eC1 (by omega) (by omega) ⟨m, rfl, hm, eM_mean hm (z0 _ (by decide)) ⟨hm, hm, fun _ => ⟨fun _ => END _ _ _ _ _ _, fun z => absurd z n10⟩, fun z => absurd (cd_e _ _ _) z⟩⟩⟩, ?_⟩
  refine ⟨fun _ => ⟨v1, q, rfl, hC.1, ct_cl eC1 hC.2.2.1 (fun hy => ⟨v1, m, rfl, hm, ct_mo hm z0 (fun _ => ⟨fun _ => END _ _ _ _ _ _, fun z => z rfl⟩) (fun z => absurd z hy)⟩) (fun hy => ⟨v1, m, rfl, hm, ct_mo hm z0 (fun z => absurd hy z) (fun _ => ⟨fun _ => END _ _ _ _ _ _, fun z => z rfl⟩)⟩)⟩, fun _ => END _ _ _ _ _ _⟩
theorem pure5 : PureN 5 := by
  intro e0 mi L xs hL
  refine law_start (by decide) (by decide) (fun q m r w h => ⟨2, ?_⟩)
  rcases Nat.lt_or_eq_of_le hL with hl | hl
  · have hneg : (nI L) - (5 : Int32) < 0 := by
      have : ∀ L, L < 5 → (nI L) - (5 : Int32) < 0 := by decide
      exact this L hl
    unfold wb_La_law_23
    exact ⟨fun _ => trivial, fun z => absurd hneg z⟩
  · subst hl
    exact one_call (by decide) (by decide) h
theorem i_vc : Claimed_1_1 ∧ Claimed_1_2 := i_vc_open pure5
