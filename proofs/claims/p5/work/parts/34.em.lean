/-! THE LAW'S CALLS OF A NEW OBJECT OF THE REFERENCE -/
/-- only ints have changed -/
def eqJ (w w' : Wd) : Prop := wL w' = wL w ∧ wK w' = wK w ∧ wR w' = wR w ∧ wJ w' = wJ w ∧ wN w' = wN w
theorem eqJ.rfl {w : Wd} : eqJ w w := ⟨Eq.refl _, Eq.refl _, Eq.refl _, Eq.refl _, Eq.refl _⟩
theorem eqJ.sI {w w' : Wd} (h : eqJ w w') (a k : Nat) (v : Int32) : eqJ w (sI w' a k v) := h
theorem eqJ.is {w w' : Wd} (h : eqJ w w') {a ci : Nat} (ha : bw_is w a ci) : bw_is w' a ci := ⟨by rw [h.1]; exact ha.1, by rw [h.2.1]; exact ha.2⟩
theorem eqJ.isM {w w' : Wd} (h : eqJ w w') {m : Nat} {A : Nat → Nat} (ha : isM w m A) : isM w' m A :=
  ⟨h.is ha.1, fun k hk => ⟨by rw [h.2.2.1]; exact (ha.2.1 k hk).1, h.is (ha.2.1 k hk).2.1, by rw [h.2.2.2.2]; exact (ha.2.1 k hk).2.2⟩, ha.2.2⟩
theorem mo_in {e0 mi : Nat} {x lo hi : Int32} {w : Wd} {Q : Int32 → Wd → Prop} (h1 : rng x lo hi → Q 1 w) (h0 : ¬ rng x lo hi → Q 0 w) : wp_Mo_in e0 mi x lo hi w Q := by
  unfold wp_Mo_in wb_Mo_in_14 wb_Mo_in_15
  exact ⟨fun z => ⟨Or.inl rfl, h0 (fun r => r.1 z)⟩, fun z => ⟨fun z2 => ⟨Or.inl rfl, h0 (fun r => r.2 z2)⟩, fun z2 => ⟨Or.inr rfl, h1 ⟨z, z2⟩⟩⟩⟩
theorem rng_no {x : Int32} : ¬ rng x 0 (0 - 1) := fun r => by
  have h1 := r.1
  have h2 := r.2
  rw [Int32.lt_iff_toInt_lt] at h1 h2
  have e1 : (0 - 1 : Int32).toInt = -1 := by decide
  have e2 : (0 : Int32).toInt = 0 := by decide
  omega
theorem rng_no1 {x : Int32} : ¬ rng x 1 0 := fun r => by
  have h1 := r.1
  have h2 := r.2
  rw [Int32.lt_iff_toInt_lt] at h1 h2
  have e1 : (1 : Int32).toInt = 1 := by decide
  have e2 : (0 : Int32).toInt = 0 := by decide
  omega
theorem cd_e (w : Wd) (m : Nat) (v : Int32) : wI (sI w m 0 v) m 0 = v := by rw [pI_I, if_pos ⟨rfl, rfl⟩]
theorem cd_o (w : Wd) (m : Nat) (v : Int32) {j : Nat} (h : j ≠ 0) : wI (sI w m 0 v) m j = wI w m j := by rw [pI_I, if_neg (fun z => h z.2)]
section EM
variable {e0 mi m : Nat} {x1 x2 x3 x4 : Int32} {w : Wd} {A : Nat → Nat}
theorem cd_1 (w : Wd) (m : Nat) : ¬ (wI (sI w m 0 1) m 0) ≤ 0 := by rw [cd_e]; decide
theorem cd_1e (w : Wd) (m : Nat) : ¬ (wI (sI w m 0 1) m 0) = 0 := by rw [cd_e]; decide
theorem m_nb {Q : Int32 → Wd → Prop} (hm : bw_is w m 6) (hb : wI w m 3 = 0) (hQ : Q 0 w) : wp_Mo_isBelt e0 mi m x1 w Q := by
  unfold wp_Mo_isBelt
  rw [hb]
  exact ⟨hm, mo_in (fun z => absurd z rng_no) (fun _ => ⟨Or.inl rfl, hQ⟩)⟩
theorem m_ni {Q : Int32 → Wd → Prop} (hm : bw_is w m 6) (hb : wI w m 12 = 0) (hQ : Q 0 w) : wp_Mo_isItem e0 mi m x1 w Q := by
  unfold wp_Mo_isItem
  rw [hb]
  exact ⟨hm, mo_in (fun z => absurd z rng_no1) (fun _ => ⟨Or.inl rfl, hQ⟩)⟩
theorem eM_join {Q : Int32 → Wd → Prop} (hm : bw_is w m 6) (hb : wI w m 3 = 0) (hQ : Q 0 (sI w m 0 1)) : wp_Mo_join e0 mi m x1 x2 x3 x4 w Q := by
  unfold wp_Mo_join wb_Mo_join_17 wb_Mo_join_51
  exact ⟨hm, m_nb hm hb ⟨fun _ => ⟨m, rfl, hm, hm, fun z => absurd z (cd_1 w m), fun _ => hQ⟩, fun z => absurd rfl z⟩⟩
theorem eM_run {Q : Wd → Prop} (hm : bw_is w m 6) (hb : wI w m 3 = 0) (hQ : Q (sI w m 0 1)) : wp_Mo_run e0 mi m x1 x2 x3 w Q := by
  unfold wp_Mo_run wb_Mo_run_29
  exact ⟨hm, m_nb hm hb ⟨fun z => absurd rfl z, fun _ => ⟨m, rfl, hm, hm, fun z => absurd z (cd_1 w m), fun _ => hQ⟩⟩⟩
theorem eM_scanner {Q : Int32 → Wd → Prop} (hm : bw_is w m 6) (hb : wI w m 3 = 0) (hQ : Q 0 (sI w m 0 1)) : wp_Mo_scanner e0 mi m x1 x2 x3 w Q := by
  unfold wp_Mo_scanner wb_Mo_scanner_68
  exact ⟨hm, m_nb hm hb ⟨fun z => absurd rfl z, fun _ => ⟨m, rfl, hm, hm, fun z => absurd z (cd_1 w m), fun _ => hQ⟩⟩⟩
theorem eM_item {Q : Int32 → Wd → Prop} (hm : bw_is w m 6) (hb : wI w m 3 = 0) (hQ : Q 0 (sI w m 0 1)) : wp_Mo_item e0 mi m x1 x2 w Q := by
  unfold wp_Mo_item wb_Mo_item_42
  exact ⟨hm, m_nb hm hb ⟨fun z => absurd rfl z, fun _ => ⟨m, rfl, hm, hm, fun z => absurd z (cd_1 w m), fun _ => hQ⟩⟩⟩
theorem eM_clean {Q : Int32 → Wd → Prop} (hm : bw_is w m 6) (hb : wI w m 3 = 0) (hQ : Q 0 (sI w m 0 1)) : wp_Mo_clean e0 mi m x1 w Q := by
  unfold wp_Mo_clean wb_Mo_clean_14 wb_Mo_clean_42
  exact ⟨hm, m_nb hm hb ⟨fun z => absurd rfl z, fun _ => ⟨m, rfl, hm, hm, fun _ => ⟨hm, fun z => absurd z (cd_1 w m), fun _ => hQ⟩, fun z => absurd z (cd_1e w m)⟩⟩⟩
theorem eM_known {Q : Int32 → Wd → Prop} (hm : bw_is w m 6) (hb : wI w m 3 = 0) (hQ : Q 0 (sI w m 0 1)) : wp_Mo_known e0 mi m x1 x2 w Q := by
  unfold wp_Mo_known wb_Mo_known_28
  exact ⟨hm, m_nb hm hb ⟨fun z => absurd rfl z, fun _ => ⟨m, rfl, hm, hm, fun z => absurd z (cd_1 w m), fun _ => hQ⟩⟩⟩
theorem eM_divert {Q : Int32 → Wd → Prop} (hm : bw_is w m 6) (hb : wI w m 12 = 0) (hQ : Q 0 (sI w m 0 1)) : wp_Mo_divert e0 mi m x1 x2 w Q := by
  unfold wp_Mo_divert wb_Mo_divert_27 wb_Mo_divert_55
  exact ⟨hm, m_ni hm hb ⟨fun z => absurd rfl z, fun _ => ⟨m, rfl, hm, hm, fun _ => ⟨hm, fun z => absurd z (cd_1 w m), fun _ => hQ⟩, fun z => absurd z (cd_1e w m)⟩⟩⟩
theorem eM_slip {Q : Int32 → Wd → Prop} (hm : bw_is w m 6) (hb : wI w m 12 = 0) (hQ : Q 0 (sI w m 0 1)) : wp_Mo_slip e0 mi m x1 x2 w Q := by
  unfold wp_Mo_slip wb_Mo_slip_29 wb_Mo_slip_67
  exact ⟨hm, m_ni hm hb ⟨fun z => absurd rfl z, fun _ => ⟨m, rfl, hm, hm, fun _ => ⟨hm, fun z => absurd z (cd_1 w m), fun _ => hQ⟩, fun z => absurd z (cd_1e w m)⟩⟩⟩
theorem eM_take {Q : Wd → Prop} (hm : bw_is w m 6) (hb : wI w m 12 = 0) (hQ : Q (sI w m 0 1)) : wp_Mo_take e0 mi m x1 w Q := by
  unfold wp_Mo_take wb_Mo_take_14 wb_Mo_take_42
  exact ⟨hm, m_ni hm hb ⟨fun z => absurd rfl z, fun _ => ⟨m, rfl, hm, hm, fun _ => ⟨hm, fun z => absurd z (cd_1 w m), fun _ => hQ⟩, fun z => absurd z (cd_1e w m)⟩⟩⟩
theorem eM_gap {Q : Int32 → Wd → Prop} (hm : bw_is w m 6) (hb : wI w m 12 = 0) (hQ : Q 0 (sI w m 0 1)) : wp_Mo_gap e0 mi m x1 x2 w Q := by
  unfold wp_Mo_gap wb_Mo_gap_17 wb_Mo_gap_22 wb_Mo_gap_79
  exact ⟨hm, m_ni hm hb ⟨fun _ => ⟨m, rfl, hm, hm, fun _ => ⟨hm, fun z => absurd z (cd_1 w m), fun _ => hQ⟩, fun z => absurd z (cd_1e w m)⟩, fun z => absurd rfl z⟩⟩
theorem eM_told {Q : Int32 → Wd → Prop} (hm : bw_is w m 6) (hb : wI w m 12 = 0) (hQ : Q 0 (sI w m 0 1)) : wp_Mo_told e0 mi m x1 x2 w Q := by
  unfold wp_Mo_told wb_Mo_told_28
  exact ⟨hm, m_ni hm hb ⟨fun z => absurd rfl z, fun _ => ⟨m, rfl, hm, hm, fun z => absurd z (cd_1 w m), fun _ => hQ⟩⟩⟩
theorem eM_order {Q : Int32 → Wd → Prop} (hm : bw_is w m 6) (hb : wI w m 29 = 0) (hQ : Q 0 (sI w m 0 1)) : wp_Mo_order e0 mi m x1 w Q := by
  unfold wp_Mo_order wb_Mo_order_20 wb_Mo_order_40
  rw [hb]
  exact ⟨hm, mo_in (fun z => absurd z rng_no) (fun _ => ⟨fun _ => ⟨m, rfl, hm, hm, fun z => absurd z (cd_1 w m), fun _ => hQ⟩, fun z => absurd rfl z⟩)⟩
theorem eM_edge {Q : Int32 → Wd → Prop} (hm : bw_is w m 6) (hb : wI w m 27 = 0) (hQ : Q 0 (sI w m 0 1)) : wp_Mo_edge e0 mi m x1 x2 w Q := by
  unfold wp_Mo_edge wb_Mo_edge_33
  rw [hb]
  exact ⟨hm, mo_in (fun z => absurd z rng_no) (fun _ => ⟨fun z => absurd rfl z, fun _ => ⟨m, rfl, hm, hm, fun z => absurd z (cd_1 w m), fun _ => hQ⟩⟩)⟩
theorem eM_mean {Q : Int32 → Wd → Prop} (hm : bw_is w m 6) (hb : wI w m 29 = 0) (hQ : Q 0 (sI w m 0 1)) : wp_Mo_mean e0 mi m w Q := by
  unfold wp_Mo_mean wb_Mo_mean_13 wb_Mo_mean_36
  exact ⟨hm, fun z => absurd hb z, fun _ => ⟨m, rfl, hm, hm, fun z => absurd z (cd_1 w m), fun _ => hQ⟩⟩
theorem eM_gaps {Q : Wd → Prop} (hm : bw_is w m 6) (h0 : rng x1 0 1000 → Q (sI (sI w m 0 0) m 2 x1)) (h1 : ¬ rng x1 0 1000 → Q (sI w m 0 1)) : wp_Mo_gaps e0 mi m x1 w Q := by
  unfold wp_Mo_gaps wb_Mo_gaps_17 wb_Mo_gaps_32
  exact mo_in (fun z => ⟨fun z => absurd z (by decide), fun _ => ⟨m, rfl, hm, hm, fun z => absurd (cd_e w m 0) z, fun _ => h0 z⟩⟩) (fun z => ⟨fun _ => ⟨m, rfl, hm, hm, fun _ => h1 z, fun z => absurd z (cd_1e w m)⟩, fun z => absurd rfl z⟩)
theorem eM_stepl {w0 : Wd} {Q : Int32 → Wd → Prop} (hQ : ∀ w', eqJ w0 w' → wI w' m 0 = 0 → Q 0 w') : ∀ (n j k : Nat) (w : Wd), j + n = k → k < 2 ^ 31 → bw_is w m 6 → wI w m 0 = 0 → wI w m 3 = 0 → wI w m 25 = 0 → wI w m 27 = 0 → eqJ w0 w → wb_Mo_step_35 e0 mi Q (n + 1) m (nI k) 0 (nI j) w
  | 0, j, k, w, hjk, hk, hm, h0, h3, h25, h27, he => by
    unfold wb_Mo_step_35
    refine ⟨fun _ => ⟨hm, ?_⟩, fun z => absurd (nI_le (by omega) (by omega)) z⟩
    rw [h27]
    exact hQ w he h0
  | n + 1, j, k, w, hjk, hk, hm, h0, h3, h25, h27, he => by
    unfold wb_Mo_step_35 wp_Mo_readDue
    refine ⟨fun z => absurd z (nI_ge (by omega) hk), fun _ => ⟨hm, 1, ?_⟩⟩
    unfold wb_Mo_readDue_4
    refine ⟨hm, fun _ => ⟨hm, fun i12 e12 => ⟨1, ?_⟩⟩, fun z => absurd (by rw [pI_I, if_neg (fun z => by simp at z), h25]; decide) z⟩
    have h3' : wI (sI (sI w m 1 (wI w m 1 + 1)) m 25 0) m 3 = 0 := by rw [pI_I, if_neg (fun z => by simp at z), pI_I, if_neg (fun z => by simp at z), h3]
    rw [h3'] at e12
    unfold wb_Mo_step_62
    refine ⟨fun _ => ⟨1, ?_⟩, fun z => absurd (by rw [e12]; decide) z⟩
    unfold wb_Mo_step_92
    refine ⟨hm, fun _ i3 e3 => ?_, fun z => absurd (by rw [h3']; decide) z⟩
    rw [e3, nI_1]
    refine eM_stepl hQ n (j + 1) k _ (by omega) hk hm ?_ h3' ?_ ?_ he
    · rw [pI_I, if_neg (fun z => by simp at z), pI_I, if_neg (fun z => by simp at z), h0]
    · rw [pI_I, if_pos ⟨rfl, rfl⟩]
    · rw [pI_I, if_neg (fun z => by simp at z), pI_I, if_neg (fun z => by simp at z), h27]
theorem eM_step {Q : Int32 → Wd → Prop} (hm : bw_is w m 6) (h3 : wI w m 3 = 0) (h25 : wI w m 25 = 0) (h27 : wI w m 27 = 0) (h0 : rng x1 0 100 → ∀ w', eqJ w w' → wI w' m 0 = 0 → Q 0 w') (h1 : ¬ rng x1 0 100 → Q 0 (sI w m 0 1)) : wp_Mo_step e0 mi m x1 w Q := by
  unfold wp_Mo_step wb_Mo_step_16
  refine mo_in (fun z => ⟨fun z => absurd z (by decide), fun _ => ⟨m, rfl, hm, hm, fun _ i5 e5 => ?_, fun z => absurd (by rw [cd_e]; decide) z⟩⟩) (fun z => ⟨fun _ => ⟨m, rfl, hm, hm, fun z => absurd z (cd_1 w m), fun _ => h1 z⟩, fun z => absurd rfl z⟩)
  rw [cd_o w m 0 (by decide), h27] at e5
  subst e5
  obtain ⟨j, hj, rfl⟩ := nI_of2 (M := 100) (n := 100) (by decide) z.1 (Int32.not_lt.mp z.2)
  exact ⟨j + 1, eM_stepl (w0 := w) (h0 z) j 0 j _ (by omega) (by omega) hm (cd_e w m 0) (by rw [cd_o w m 0 (by decide), h3]) (by rw [cd_o w m 0 (by decide), h25]) (by rw [cd_o w m 0 (by decide), h27]) (eqJ.rfl.sI _ _ _)⟩
end EM
