/-! THE LAW'S LOOP -/
set_option maxHeartbeats 4000000 in
theorem law_loop {e0 mi L : Nat} {xs : Nat → Int32} (hL : L ≤ 2560) : ∀ (n c : Nat) (w : Wd) (q m r nc ns : Nat), c + n = 512 → Jn e0 c w q m r nc ns → wb_La_law_23 e0 mi L xs (n + 1) (some q) (some m) (some r) (nI (5 * c)) w nc ns := by
  intro n
  induction n with
  | zero =>
    intro c w q m r nc ns hcn J
    rw [wb_La_law_23]
    refine ⟨fun _ => trivial, fun z => absurd ?_ z⟩
    have e : (nI L - 5).toInt = (L : Int) - 5 := pk_sub_toInt (a := L) (b := 5) (by omega) (by omega)
    rw [Int32.lt_iff_toInt_lt, e, nI_toInt (by omega)]
    omega
  | succ n ih =>
    intro c w q m r nc ns hcn J
    have hc : c < 512 := by omega
    rw [wb_La_law_23]
    have go : ∀ w18 nc' ns', Jn e0 (c + 1) w18 q m r nc' ns' → wb_La_law_800 e0 mi (wb_La_law_23 e0 mi L xs (n + 1)) L xs (some q) (some m) (some r) (nI (5 * c)) w18 nc' ns' := fun w18 nc' ns' J' => by
      unfold wb_La_law_800
      intro i1 e1
      rw [e1, show nI (5 * c) + 5 = nI (5 * (c + 1)) from nI_add (5 * c) 5]
      exact ih (c + 1) w18 q m r nc' ns' (by omega) J'
    refine ⟨fun _ => trivial, fun z => ?_⟩
    have hlt : 5 * c + 5 ≤ L := by
      have e : (nI L - 5).toInt = (L : Int) - 5 := pk_sub_toInt (a := L) (b := 5) (by omega) (by omega)
      rw [Int32.lt_iff_toInt_lt, e, nI_toInt (by omega)] at z
      omega
    have v : ∀ k, k < 5 → vp_in (nI (5 * c) + nI k) L := fun k hk => by
      rw [nI_add]
      exact vp_in_nI (by omega) (by omega)
    have v0 : vp_in (nI (5 * c)) L := vp_in_nI (by omega) (by omega)
    have v1 : vp_in (nI (5 * c) + (1 : Int32)) L := v 1 (by decide)
    have v2 : vp_in (nI (5 * c) + (2 : Int32)) L := v 2 (by decide)
    have v3 : vp_in (nI (5 * c) + (3 : Int32)) L := v 3 (by decide)
    have v4 : vp_in (nI (5 * c) + (4 : Int32)) L := v 4 (by decide)
    clear v z hlt
    generalize nI (5 * c) = x4 at go v0 v1 v2 v3 v4 ⊢
    refine ⟨v0, ?_⟩
    refine ⟨fun _ => ⟨v1, v2, L_belt J hc (fun _ _ _ _ hm hN => ⟨v1, v2, m, rfl, hm, hN _ (fun _ _ a => go _ _ _ a.1.1)⟩)⟩, ?_⟩
    refine ⟨fun _ => ⟨v1, v2, v3, v4, L_join J hc (fun _ _ _ _ hm hN => ⟨v1, v2, v3, v4, m, rfl, hm, hN _ (fun _ _ a => go _ _ _ a.1.1)⟩)⟩, ?_⟩
    unfold wb_La_law_255 wb_La_law_287
    refine ⟨fun _ => ⟨v1, v2, v3, fun z => L_run J hc (by unfold bw_b; decide) (fun _ _ _ _ hm hN => ⟨v1, v2, v3, fun _ => ⟨m, rfl, hm, hN _ (fun _ a => go _ _ _ a.1)⟩, fun y => absurd z y⟩), fun z => L_run J hc (by unfold bw_b; decide) (fun _ _ _ _ hm hN => ⟨v1, v2, v3, fun y => absurd y z, fun _ => ⟨m, rfl, hm, hN _ (fun _ a => go _ _ _ a.1)⟩⟩)⟩, ?_⟩
    refine ⟨fun _ => ⟨v1, L_gaps J hc (fun _ _ _ _ hm hN => ⟨v1, m, rfl, hm, hN _ (fun _ a => go _ _ _ a.1)⟩)⟩, ?_⟩
    refine ⟨fun _ => ⟨v1, v2, v3, L_scanner J hc (fun _ _ _ _ hm hN => ⟨v1, v2, v3, m, rfl, hm, hN _ (fun _ _ a => go _ _ _ a.1.1)⟩)⟩, ?_⟩
    refine ⟨fun _ => ⟨v1, v2, L_item J hc (fun _ _ _ _ hm hN => ⟨v1, v2, m, rfl, hm, hN _ (fun _ _ a => go _ _ _ a.1.1)⟩)⟩, ?_⟩
    refine ⟨fun _ => ⟨v1, v2, L_divert J hc (fun _ _ _ _ hm hN => ⟨v1, v2, m, rfl, hm, hN _ (fun _ _ a => go _ _ _ a.1.1)⟩)⟩, ?_⟩
    refine ⟨fun _ => ⟨v1, L_step J hc (fun _ _ _ _ hm hN => ⟨v1, m, rfl, hm, hN _ (fun _ _ a => go _ _ _ a.1.1)⟩)⟩, ?_⟩
    refine ⟨fun _ => ⟨v1, v2, L_edge J hc (fun _ _ _ _ hm hN => ⟨v1, v2, m, rfl, hm, hN _ (fun _ _ a => go _ _ _ a.1.1)⟩)⟩, ?_⟩
    refine ⟨fun _ => ⟨v1, v2, L_slip J hc (fun _ _ _ _ hm hN => ⟨v1, v2, m, rfl, hm, hN _ (fun _ _ a => go _ _ _ a.1.1)⟩)⟩, ?_⟩
    refine ⟨fun _ => ⟨v1, L_take J hc (fun _ _ _ _ hm hN => ⟨v1, m, rfl, hm, hN _ (fun _ a => go _ _ _ a.1)⟩)⟩, ?_⟩
    refine ⟨fun _ => ⟨v1, L_clean J hc (fun _ _ _ _ hm hN => ⟨v1, m, rfl, hm, hN _ (fun _ _ a => go _ _ _ a.1.1)⟩)⟩, ?_⟩
    refine ⟨fun _ => ⟨v1, v2, L_gap J hc (fun _ _ _ _ hm hN => ⟨v1, v2, m, rfl, hm, hN _ (fun _ _ a => go _ _ _ a.1)⟩)⟩, ?_⟩
    refine ⟨fun _ => ⟨v1, v2, L_told J hc (fun _ _ _ _ hm hN => ⟨v1, v2, m, rfl, hm, hN _ (fun _ _ a _ => go _ _ _ a.1)⟩)⟩, ?_⟩
    refine ⟨fun _ => ⟨v1, v2, L_known J hc (fun _ _ _ _ hm hN => ⟨v1, v2, m, rfl, hm, hN _ (fun _ _ a => go _ _ _ a.1.1)⟩)⟩, ?_⟩
    refine ⟨fun _ => ⟨v1, L_order J hc (fun _ _ _ _ hm hN => ⟨v1, m, rfl, hm, hN _ (fun _ _ a => go _ _ _ a.1.1)⟩)⟩, ?_⟩
    refine ⟨fun _ => L_mean J hc (fun _ _ _ _ hm hN => ⟨m, rfl, hm, hN _ (fun _ _ a => go _ _ _ a.1.1)⟩), ?_⟩
    refine ⟨fun _ => ⟨v1, q, rfl, (Jn_m J).1, L_count J (fun _ hN => ⟨v1, m, rfl, (Jn_m J).2.1, hN _ (fun _ j => ⟨fun _ => go _ _ _ j, fun z => z rfl⟩)⟩)⟩, ?_⟩
    exact fun _ => go _ _ _ (Jn_up J)
theorem pure_all : PureN 2560 := fun e0 mi L xs hL => law_start (by decide) (by decide) (fun q m r w h => ⟨513, law_loop hL 512 0 w q m r _ _ (by decide) (Jn_start h (by decide) (by decide))⟩)
theorem i_vc : Claimed_1_1 ∧ Claimed_1_2 := i_vc_open pure_all
