/-! the law, printed by wip/gen/runl.py -/
def wb_La_law_811 (e0 mi : Nat) (K23 : Option Nat → Option Nat → Option Nat → Int32 → Wd → Nat → Nat → Prop) (L : Nat) (xs : Nat → Int32) (x1 : Option Nat) (x2 : Option Nat) (x3 : Option Nat) (x4 : Int32) (w : Wd) (nc ns : Nat) : Prop :=
  ∀ i1 : Int32, i1 = x4 + 5 → (K23 x1 x2 x3 i1 w nc ns)
set_option maxHeartbeats 4000000 in
set_option maxRecDepth 100000 in
theorem k_La_law_811 {p : Program} {l : Launch} {e : Env} {s : State} {m : MethodId} {below : List Frame} {meth : Method} {c : Code} {D : va_G} {AC : Nat → ClassId} {e0 mi : Nat} {x0 L : Nat} {xs : Nat → Int32} {K23 : Option Nat → Option Nat → Option Nat → Int32 → Wd → Nat → Nat → Prop} (C : Cx p l s m #[Value.ref x0] meth c D AC e0 mi (fun q : Nat => s.heap.size ≤ q) n_La_law b_La_law 7 (some .boolean)) (hX : va_X x0 L xs s s.heap) (hbl : x0 < s.heap.size) (hK23 : ∀ (x1 : Option Nat) (x2 : Option Nat) (x3 : Option Nat) (x4 : Int32) (w : Wd) (nc ns : Nat), K23 x1 x2 x3 x4 w nc ns → ∀ (H : Heap) (locs : List Loc) (cells slots : Nat) (ls : Array Slot), HW D cls8 FTc AC (fun q : Nat => s.heap.size ≤ q) s.heap H locs w → lv_has ls 7 [(0, va_rf (some x0)), (1, va_rf x1), (2, va_rf x2), (3, va_rf x3), (4, .int x4)] → cells + nc ≤ 601024 → slots + ns ≤ 7293034 → W p l e room_1 s m #[Value.ref x0] below meth c H locs cells slots (lw_Z below #[Value.ref x0] s) (F0 m 23 ls [])) (x1 : Option Nat) (x2 : Option Nat) (x3 : Option Nat) (x4 : Int32) (w : Wd) (nc ns : Nat) (hq : wb_La_law_811 e0 mi K23 L xs x1 x2 x3 x4 w nc ns) : ∀ (H : Heap) (locs : List Loc) (cells slots : Nat) (ls : Array Slot), HW D cls8 FTc AC (fun q : Nat => s.heap.size ≤ q) s.heap H locs w → lv_has ls 7 [(0, va_rf (some x0)), (1, va_rf x1), (2, va_rf x2), (3, va_rf x3), (4, .int x4)] → cells + nc ≤ 601024 → slots + ns ≤ 7293034 → W p l e room_1 s m #[Value.ref x0] below meth c H locs cells slots (lw_Z below #[Value.ref x0] s) (F0 m 811 ls []) := by
  obtain ⟨hl0, hx, hb, hr, ht, hown, hlocks, hnm, hml, hex, hK, hA, hZ, hV⟩ := id C
  have hbA : ¬ (fun q : Nat => s.heap.size ≤ q) x0 := Nat.not_le.mpr hbl
  intro H locs cells slots ls hW hl hc hs
  unfold wb_La_law_811 at hq
  obtain ⟨i1, ei1⟩ : ∃ y : Int32, y = x4 + 5 := ⟨_, rfl⟩
  have hq := hq i1 ei1
  refine lv_iinc (v := i1) (lv' := [(4, .int i1), (0, va_rf (some x0)), (1, va_rf x1), (2, va_rf x2), (3, va_rf x3)]) hx hb d_La_law_811 hl (k := 4) rfl (by rw [ei1]; rfl) (by decide) (by simp [bw_cat, cat_i, cat_j]) (fun ls hl => ?_)
  refine lv_goto (tgt := 23) hx hb d_La_law_814 (by decide) ?_
  exact hK23 _ _ _ _ _ _ _ hq _ _ _ _ _ hW (lv_sub hl [1, 2, 3, 4, 0] rfl) hc hs
def wb_La_law_287 (e0 mi : Nat) (K23 : Option Nat → Option Nat → Option Nat → Int32 → Wd → Nat → Nat → Prop) (L : Nat) (xs : Nat → Int32) (x1 : Option Nat) (x2 : Option Nat) (x3 : Option Nat) (x4 : Int32) (x5 : Int32) (z0 : Option Nat) (z1 : Int32) (z2 : Int32) (z3 : Int32) (w : Wd) (nc ns : Nat) : Prop :=
  ∃ a1 : Nat, z0 = some a1 ∧ (bw_is w a1 6 ∧ (wp_Mo_run e0 mi a1 z1 z2 z3 w (fun w4 => wb_La_law_811 e0 mi K23 L xs x1 x2 x3 x4 w4 nc ns)))
set_option maxHeartbeats 4000000 in
set_option maxRecDepth 100000 in
theorem k_La_law_287 {p : Program} {l : Launch} {e : Env} {s : State} {m : MethodId} {below : List Frame} {meth : Method} {c : Code} {D : va_G} {AC : Nat → ClassId} {e0 mi : Nat} {x0 L : Nat} {xs : Nat → Int32} {K23 : Option Nat → Option Nat → Option Nat → Int32 → Wd → Nat → Nat → Prop} (C : Cx p l s m #[Value.ref x0] meth c D AC e0 mi (fun q : Nat => s.heap.size ≤ q) n_La_law b_La_law 7 (some .boolean)) (hX : va_X x0 L xs s s.heap) (hbl : x0 < s.heap.size) (hK23 : ∀ (x1 : Option Nat) (x2 : Option Nat) (x3 : Option Nat) (x4 : Int32) (w : Wd) (nc ns : Nat), K23 x1 x2 x3 x4 w nc ns → ∀ (H : Heap) (locs : List Loc) (cells slots : Nat) (ls : Array Slot), HW D cls8 FTc AC (fun q : Nat => s.heap.size ≤ q) s.heap H locs w → lv_has ls 7 [(0, va_rf (some x0)), (1, va_rf x1), (2, va_rf x2), (3, va_rf x3), (4, .int x4)] → cells + nc ≤ 601024 → slots + ns ≤ 7293034 → W p l e room_1 s m #[Value.ref x0] below meth c H locs cells slots (lw_Z below #[Value.ref x0] s) (F0 m 23 ls [])) (x1 : Option Nat) (x2 : Option Nat) (x3 : Option Nat) (x4 : Int32) (x5 : Int32) (z0 : Option Nat) (z1 : Int32) (z2 : Int32) (z3 : Int32) (w : Wd) (nc ns : Nat) (hq : wb_La_law_287 e0 mi K23 L xs x1 x2 x3 x4 x5 z0 z1 z2 z3 w nc ns) : ∀ (H : Heap) (locs : List Loc) (cells slots : Nat) (ls : Array Slot), HW D cls8 FTc AC (fun q : Nat => s.heap.size ≤ q) s.heap H locs w → lv_has ls 7 [(0, va_rf (some x0)), (1, va_rf x1), (2, va_rf x2), (3, va_rf x3), (4, .int x4), (5, .int x5)] → cells + nc ≤ 601024 → slots + ns ≤ 7293034 → W p l e room_1 s m #[Value.ref x0] below meth c H locs cells slots (lw_Z below #[Value.ref x0] s) (F0 m 287 ls [.int z3, .int z2, .int z1, va_rf z0]) := by
  obtain ⟨hl0, hx, hb, hr, ht, hown, hlocks, hnm, hml, hex, hK, hA, hZ, hV⟩ := id C
  have hbA : ¬ (fun q : Nat => s.heap.size ≤ q) x0 := Nat.not_le.mpr hbl
  intro H locs cells slots ls hW hl hc hs
  unfold wb_La_law_287 at hq
  obtain ⟨a1, ea1, hq⟩ := hq
  obtain ⟨t2, hq⟩ := hq
  refine bw_callV (As := [.int z1, .int z2, .int z3]) (rest := []) C hW ci_Mo_run m_863 m_864 m_865 d_La_law_287 ea1 t2 (by decide) rfl rfl rfl hl.1 (by decide) ⟨Nat.le_of_ble_eq_true rfl, Nat.le_of_ble_eq_true rfl⟩ ⟨Nat.le_trans (Nat.add_le_add_left (Nat.zero_le _) _) hc, Nat.le_trans (Nat.add_le_add_left (Nat.zero_le _) _) hs⟩ (c_Mo_run hl0 _ _ _ _ _ hq) (fun _ _ _ _ _ _ h => h.elim) (fun v3 w4 H locs hv hW => ?_)
  obtain ⟨rfl, hq⟩ := hv
  have hc := bw_bud0 hc
  have hs := bw_bud0 hs
  refine W.eq (g2 := F0 m 290 ls []) rfl ?_
  refine lv_goto (tgt := 811) hx hb d_La_law_290 (by decide) ?_
  exact k_La_law_811 C hX hbl hK23 _ _ _ _ _ _ _ hq _ _ _ _ _ hW (lv_sub hl [0, 1, 2, 3, 4] rfl) hc hs
def wb_La_law_255 (e0 mi : Nat) (K23 : Option Nat → Option Nat → Option Nat → Int32 → Wd → Nat → Nat → Prop) (L : Nat) (xs : Nat → Int32) (x1 : Option Nat) (x2 : Option Nat) (x3 : Option Nat) (x4 : Int32) (z0 : Option Nat) (z1 : Int32) (z2 : Int32) (z3 : Int32) (w : Wd) (nc ns : Nat) : Prop :=
  ∃ k3 k4 : Nat, k3 ≤ nc ∧ k4 ≤ ns ∧ wp_La_run e0 mi z0 z1 z2 z3 w k3 k4 (fun i7 w2 => vp_in (x4 + (1 : Int32)) L ∧ (vp_in (x4 + (2 : Int32)) L ∧ (vp_in (x4 + (3 : Int32)) L ∧ (((xs (x4 + (3 : Int32)).toNatClampNeg) = 0 → (wb_La_law_287 e0 mi K23 L xs x1 x2 x3 x4 i7 x2 (xs (x4 + (1 : Int32)).toNatClampNeg) (xs (x4 + (2 : Int32)).toNatClampNeg) (0 : Int32) w2 (nc - k3) (ns - k4))) ∧ (¬ (xs (x4 + (3 : Int32)).toNatClampNeg) = 0 → (wb_La_law_287 e0 mi K23 L xs x1 x2 x3 x4 i7 x2 (xs (x4 + (1 : Int32)).toNatClampNeg) (xs (x4 + (2 : Int32)).toNatClampNeg) (1 : Int32) w2 (nc - k3) (ns - k4)))))))
set_option maxHeartbeats 4000000 in
set_option maxRecDepth 100000 in
theorem k_La_law_255 {p : Program} {l : Launch} {e : Env} {s : State} {m : MethodId} {below : List Frame} {meth : Method} {c : Code} {D : va_G} {AC : Nat → ClassId} {e0 mi : Nat} {x0 L : Nat} {xs : Nat → Int32} {K23 : Option Nat → Option Nat → Option Nat → Int32 → Wd → Nat → Nat → Prop} (C : Cx p l s m #[Value.ref x0] meth c D AC e0 mi (fun q : Nat => s.heap.size ≤ q) n_La_law b_La_law 7 (some .boolean)) (hX : va_X x0 L xs s s.heap) (hbl : x0 < s.heap.size) (hK23 : ∀ (x1 : Option Nat) (x2 : Option Nat) (x3 : Option Nat) (x4 : Int32) (w : Wd) (nc ns : Nat), K23 x1 x2 x3 x4 w nc ns → ∀ (H : Heap) (locs : List Loc) (cells slots : Nat) (ls : Array Slot), HW D cls8 FTc AC (fun q : Nat => s.heap.size ≤ q) s.heap H locs w → lv_has ls 7 [(0, va_rf (some x0)), (1, va_rf x1), (2, va_rf x2), (3, va_rf x3), (4, .int x4)] → cells + nc ≤ 601024 → slots + ns ≤ 7293034 → W p l e room_1 s m #[Value.ref x0] below meth c H locs cells slots (lw_Z below #[Value.ref x0] s) (F0 m 23 ls [])) (x1 : Option Nat) (x2 : Option Nat) (x3 : Option Nat) (x4 : Int32) (z0 : Option Nat) (z1 : Int32) (z2 : Int32) (z3 : Int32) (w : Wd) (nc ns : Nat) (hq : wb_La_law_255 e0 mi K23 L xs x1 x2 x3 x4 z0 z1 z2 z3 w nc ns) : ∀ (H : Heap) (locs : List Loc) (cells slots : Nat) (ls : Array Slot), HW D cls8 FTc AC (fun q : Nat => s.heap.size ≤ q) s.heap H locs w → lv_has ls 7 [(0, va_rf (some x0)), (1, va_rf x1), (2, va_rf x2), (3, va_rf x3), (4, .int x4)] → cells + nc ≤ 601024 → slots + ns ≤ 7293034 → W p l e room_1 s m #[Value.ref x0] below meth c H locs cells slots (lw_Z below #[Value.ref x0] s) (F0 m 255 ls [.int z3, .int z2, .int z1, va_rf z0]) := by
  obtain ⟨hl0, hx, hb, hr, ht, hown, hlocks, hnm, hml, hex, hK, hA, hZ, hV⟩ := id C
  have hbA : ¬ (fun q : Nat => s.heap.size ≤ q) x0 := Nat.not_le.mpr hbl
  intro H locs cells slots ls hW hl hc hs
  unfold wb_La_law_255 at hq
  obtain ⟨k3, k4, h5, h6, hq⟩ := hq
  refine bw_callSW (nA := 4) (hh := [(0, 7, 10, 21), (0, 7, 14, 13)]) (As := [va_rf z0, .int z1, .int z2, .int z3]) (rest := []) C hW m_377 m_0 m_375 m_376 (by decide) (by decide +kernel) d_La_law_255 rfl rfl hl.1 (by decide) ⟨Nat.le_of_ble_eq_true rfl, Nat.le_of_ble_eq_true rfl⟩ ⟨Nat.le_trans (Nat.add_le_add_left h5 _) hc, Nat.le_trans (Nat.add_le_add_left h6 _) hs⟩ (c_La_run hl0 _ _ _ _ _ _ _ hq) (fun v1 w2 H locs hv hW => ?_)
  obtain ⟨i7, rfl, hq⟩ := hv
  have hc := bw_bud hc h5
  have hs := bw_bud hs h6
  refine W.eq (g2 := F0 m 258 ls [.int i7]) rfl ?_
  refine lv_istore (lv' := [(5, .int i7), (0, va_rf (some x0)), (1, va_rf x1), (2, va_rf x2), (3, va_rf x3), (4, .int x4)]) hx hb d_La_law_258 hl (by decide) (by simp [bw_cat, cat_i, cat_j]) (fun ls hl => ?_)
  refine bw_aload_n hx hb d_La_law_260 rfl (lv_at hl 3 rfl) ?_
  refine bw_aload_n hx hb d_La_law_261 rfl (lv_at hl 1 rfl) ?_
  refine lv_iload hx hb d_La_law_262 (lv_at hl 5 rfl) ?_
  refine lv_iconst (v := 1) hx hb d_La_law_264 (by decide) ?_
  refine lv_iadd hx hb d_La_law_265 ?_
  obtain ⟨h8, hq⟩ := hq
  refine va_sld hx hb hX hbl hbA hW.2.2 h8 d_La_law_266 ?_
  refine bw_aload_n hx hb d_La_law_267 rfl (lv_at hl 1 rfl) ?_
  refine lv_iload hx hb d_La_law_268 (lv_at hl 5 rfl) ?_
  refine lv_iconst (v := 2) hx hb d_La_law_270 (by decide) ?_
  refine lv_iadd hx hb d_La_law_271 ?_
  obtain ⟨h9, hq⟩ := hq
  refine va_sld hx hb hX hbl hbA hW.2.2 h9 d_La_law_272 ?_
  refine bw_aload_n hx hb d_La_law_273 rfl (lv_at hl 1 rfl) ?_
  refine lv_iload hx hb d_La_law_274 (lv_at hl 5 rfl) ?_
  refine lv_iconst (v := 3) hx hb d_La_law_276 (by decide) ?_
  refine lv_iadd hx hb d_La_law_277 ?_
  obtain ⟨h10, hq⟩ := hq
  refine va_sld hx hb hX hbl hbA hW.2.2 h10 d_La_law_278 ?_
  refine lv_if_eq (tgt := 286) hx hb d_La_law_279 (by decide) (fun c11 => ?_) (fun c11 => ?_)
  · have hq := hq.1 c11
    refine lv_iconst (v := 0) hx hb d_La_law_286 (by decide) ?_
    exact k_La_law_287 C hX hbl hK23 _ _ _ _ _ _ _ _ _ _ _ _ hq _ _ _ _ _ hW (lv_sub hl [1, 2, 3, 4, 5, 0] rfl) hc hs
  · have hq := hq.2 c11
    refine lv_iconst (v := 1) hx hb d_La_law_282 (by decide) ?_
    refine lv_goto (tgt := 287) hx hb d_La_law_283 (by decide) ?_
    exact k_La_law_287 C hX hbl hK23 _ _ _ _ _ _ _ _ _ _ _ _ hq _ _ _ _ _ hW (lv_sub hl [1, 2, 3, 4, 5, 0] rfl) hc hs
def wb_La_law_23 (e0 mi : Nat) (L : Nat) (xs : Nat → Int32) : Nat → Option Nat → Option Nat → Option Nat → Int32 → Wd → Nat → Nat → Prop
  | 0, _, _, _, _, _, _, _ => False
  | n + 1, x1, x2, x3, x4, w, nc, ns => (((nI L) - (5 : Int32)) < x4 → (True)) ∧ (¬ ((nI L) - (5 : Int32)) < x4 → (vp_in x4 L ∧ ((((xs x4.toNatClampNeg) &&& (31 : Int32)) = 0 → (vp_in (x4 + (1 : Int32)) L ∧ (vp_in (x4 + (2 : Int32)) L ∧ (∃ k8 k9 : Nat, k8 ≤ nc ∧ k9 ≤ ns ∧ wp_La_belt e0 mi x1 (xs (x4 + (1 : Int32)).toNatClampNeg) (xs (x4 + (2 : Int32)).toNatClampNeg) x3 w k8 k9 (fun i12 w7 => vp_in (x4 + (1 : Int32)) L ∧ (vp_in (x4 + (2 : Int32)) L ∧ (∃ a15 : Nat, x2 = some a15 ∧ (bw_is w7 a15 6 ∧ (wp_Mo_belt e0 mi a15 (xs (x4 + (1 : Int32)).toNatClampNeg) (xs (x4 + (2 : Int32)).toNatClampNeg) w7 (fun i23 w18 => wb_La_law_811 e0 mi (wb_La_law_23 e0 mi L xs n) L xs x1 x2 x3 x4 w18 (nc - k8) (ns - k9))))))))))) ∧ (((xs x4.toNatClampNeg) &&& (31 : Int32)) = 1 → (vp_in (x4 + (1 : Int32)) L ∧ (vp_in (x4 + (2 : Int32)) L ∧ (vp_in (x4 + (3 : Int32)) L ∧ (vp_in (x4 + (4 : Int32)) L ∧ (∃ k30 k31 : Nat, k30 ≤ nc ∧ k31 ≤ ns ∧ wp_La_join e0 mi x1 (xs (x4 + (1 : Int32)).toNatClampNeg) (xs (x4 + (2 : Int32)).toNatClampNeg) (xs (x4 + (3 : Int32)).toNatClampNeg) (xs (x4 + (4 : Int32)).toNatClampNeg) x3 w k30 k31 (fun i34 w29 => vp_in (x4 + (1 : Int32)) L ∧ (vp_in (x4 + (2 : Int32)) L ∧ (vp_in (x4 + (3 : Int32)) L ∧ (vp_in (x4 + (4 : Int32)) L ∧ (∃ a39 : Nat, x2 = some a39 ∧ (bw_is w29 a39 6 ∧ (wp_Mo_join e0 mi a39 (xs (x4 + (1 : Int32)).toNatClampNeg) (xs (x4 + (2 : Int32)).toNatClampNeg) (xs (x4 + (3 : Int32)).toNatClampNeg) (xs (x4 + (4 : Int32)).toNatClampNeg) w29 (fun i47 w42 => wb_La_law_811 e0 mi (wb_La_law_23 e0 mi L xs n) L xs x1 x2 x3 x4 w42 (nc - k30) (ns - k31))))))))))))))) ∧ (((xs x4.toNatClampNeg) &&& (31 : Int32)) = 2 → (vp_in (x4 + (1 : Int32)) L ∧ (vp_in (x4 + (2 : Int32)) L ∧ (vp_in (x4 + (3 : Int32)) L ∧ (((xs (x4 + (3 : Int32)).toNatClampNeg) = 0 → (wb_La_law_255 e0 mi (wb_La_law_23 e0 mi L xs n) L xs x1 x2 x3 x4 x1 (xs (x4 + (1 : Int32)).toNatClampNeg) (xs (x4 + (2 : Int32)).toNatClampNeg) (0 : Int32) w nc ns)) ∧ (¬ (xs (x4 + (3 : Int32)).toNatClampNeg) = 0 → (wb_La_law_255 e0 mi (wb_La_law_23 e0 mi L xs n) L xs x1 x2 x3 x4 x1 (xs (x4 + (1 : Int32)).toNatClampNeg) (xs (x4 + (2 : Int32)).toNatClampNeg) (1 : Int32) w nc ns))))))) ∧ (((xs x4.toNatClampNeg) &&& (31 : Int32)) = 3 → (vp_in (x4 + (1 : Int32)) L ∧ (∃ k55 k56 : Nat, k55 ≤ nc ∧ k56 ≤ ns ∧ wp_La_gaps e0 mi x1 (xs (x4 + (1 : Int32)).toNatClampNeg) w k55 k56 (fun i59 w54 => vp_in (x4 + (1 : Int32)) L ∧ (∃ a61 : Nat, x2 = some a61 ∧ (bw_is w54 a61 6 ∧ (wp_Mo_gaps e0 mi a61 (xs (x4 + (1 : Int32)).toNatClampNeg) w54 (fun w64 => wb_La_law_811 e0 mi (wb_La_law_23 e0 mi L xs n) L xs x1 x2 x3 x4 w64 (nc - k55) (ns - k56))))))))) ∧ (((xs x4.toNatClampNeg) &&& (31 : Int32)) = 4 → (vp_in (x4 + (1 : Int32)) L ∧ (vp_in (x4 + (2 : Int32)) L ∧ (vp_in (x4 + (3 : Int32)) L ∧ (∃ k75 k76 : Nat, k75 ≤ nc ∧ k76 ≤ ns ∧ wp_La_scanner e0 mi x1 (xs (x4 + (1 : Int32)).toNatClampNeg) (xs (x4 + (2 : Int32)).toNatClampNeg) (xs (x4 + (3 : Int32)).toNatClampNeg) x3 w k75 k76 (fun i79 w74 => vp_in (x4 + (1 : Int32)) L ∧ (vp_in (x4 + (2 : Int32)) L ∧ (vp_in (x4 + (3 : Int32)) L ∧ (∃ a83 : Nat, x2 = some a83 ∧ (bw_is w74 a83 6 ∧ (wp_Mo_scanner e0 mi a83 (xs (x4 + (1 : Int32)).toNatClampNeg) (xs (x4 + (2 : Int32)).toNatClampNeg) (xs (x4 + (3 : Int32)).toNatClampNeg) w74 (fun i91 w86 => wb_La_law_811 e0 mi (wb_La_law_23 e0 mi L xs n) L xs x1 x2 x3 x4 w86 (nc - k75) (ns - k76))))))))))))) ∧ (((xs x4.toNatClampNeg) &&& (31 : Int32)) = 5 → (vp_in (x4 + (1 : Int32)) L ∧ (vp_in (x4 + (2 : Int32)) L ∧ (∃ k96 k97 : Nat, k96 ≤ nc ∧ k97 ≤ ns ∧ wp_La_item e0 mi x1 (xs (x4 + (1 : Int32)).toNatClampNeg) (xs (x4 + (2 : Int32)).toNatClampNeg) x3 w k96 k97 (fun i100 w95 => vp_in (x4 + (1 : Int32)) L ∧ (vp_in (x4 + (2 : Int32)) L ∧ (∃ a103 : Nat, x2 = some a103 ∧ (bw_is w95 a103 6 ∧ (wp_Mo_item e0 mi a103 (xs (x4 + (1 : Int32)).toNatClampNeg) (xs (x4 + (2 : Int32)).toNatClampNeg) w95 (fun i111 w106 => wb_La_law_811 e0 mi (wb_La_law_23 e0 mi L xs n) L xs x1 x2 x3 x4 w106 (nc - k96) (ns - k97))))))))))) ∧ (((xs x4.toNatClampNeg) &&& (31 : Int32)) = 6 → (vp_in (x4 + (1 : Int32)) L ∧ (vp_in (x4 + (2 : Int32)) L ∧ (∃ k116 k117 : Nat, k116 ≤ nc ∧ k117 ≤ ns ∧ wp_La_divert e0 mi x1 (xs (x4 + (1 : Int32)).toNatClampNeg) (xs (x4 + (2 : Int32)).toNatClampNeg) x3 w k116 k117 (fun i120 w115 => vp_in (x4 + (1 : Int32)) L ∧ (vp_in (x4 + (2 : Int32)) L ∧ (∃ a123 : Nat, x2 = some a123 ∧ (bw_is w115 a123 6 ∧ (wp_Mo_divert e0 mi a123 (xs (x4 + (1 : Int32)).toNatClampNeg) (xs (x4 + (2 : Int32)).toNatClampNeg) w115 (fun i131 w126 => wb_La_law_811 e0 mi (wb_La_law_23 e0 mi L xs n) L xs x1 x2 x3 x4 w126 (nc - k116) (ns - k117))))))))))) ∧ (((xs x4.toNatClampNeg) &&& (31 : Int32)) = 7 → (vp_in (x4 + (1 : Int32)) L ∧ (∃ k135 k136 : Nat, k135 ≤ nc ∧ k136 ≤ ns ∧ wp_La_step e0 mi x1 (xs (x4 + (1 : Int32)).toNatClampNeg) x3 w k135 k136 (fun i139 w134 => vp_in (x4 + (1 : Int32)) L ∧ (∃ a141 : Nat, x2 = some a141 ∧ (bw_is w134 a141 6 ∧ (wp_Mo_step e0 mi a141 (xs (x4 + (1 : Int32)).toNatClampNeg) w134 (fun i149 w144 => wb_La_law_811 e0 mi (wb_La_law_23 e0 mi L xs n) L xs x1 x2 x3 x4 w144 (nc - k135) (ns - k136))))))))) ∧ (((xs x4.toNatClampNeg) &&& (31 : Int32)) = 8 → (vp_in (x4 + (1 : Int32)) L ∧ (vp_in (x4 + (2 : Int32)) L ∧ (∃ k154 k155 : Nat, k154 ≤ nc ∧ k155 ≤ ns ∧ wp_La_edge e0 mi x1 (xs (x4 + (1 : Int32)).toNatClampNeg) (xs (x4 + (2 : Int32)).toNatClampNeg) x3 w k154 k155 (fun i158 w153 => vp_in (x4 + (1 : Int32)) L ∧ (vp_in (x4 + (2 : Int32)) L ∧ (∃ a161 : Nat, x2 = some a161 ∧ (bw_is w153 a161 6 ∧ (wp_Mo_edge e0 mi a161 (xs (x4 + (1 : Int32)).toNatClampNeg) (xs (x4 + (2 : Int32)).toNatClampNeg) w153 (fun i169 w164 => wb_La_law_811 e0 mi (wb_La_law_23 e0 mi L xs n) L xs x1 x2 x3 x4 w164 (nc - k154) (ns - k155))))))))))) ∧ (((xs x4.toNatClampNeg) &&& (31 : Int32)) = 9 → (vp_in (x4 + (1 : Int32)) L ∧ (vp_in (x4 + (2 : Int32)) L ∧ (∃ k174 k175 : Nat, k174 ≤ nc ∧ k175 ≤ ns ∧ wp_La_slip e0 mi x1 (xs (x4 + (1 : Int32)).toNatClampNeg) (xs (x4 + (2 : Int32)).toNatClampNeg) x3 w k174 k175 (fun i178 w173 => vp_in (x4 + (1 : Int32)) L ∧ (vp_in (x4 + (2 : Int32)) L ∧ (∃ a181 : Nat, x2 = some a181 ∧ (bw_is w173 a181 6 ∧ (wp_Mo_slip e0 mi a181 (xs (x4 + (1 : Int32)).toNatClampNeg) (xs (x4 + (2 : Int32)).toNatClampNeg) w173 (fun i189 w184 => wb_La_law_811 e0 mi (wb_La_law_23 e0 mi L xs n) L xs x1 x2 x3 x4 w184 (nc - k174) (ns - k175))))))))))) ∧ (((xs x4.toNatClampNeg) &&& (31 : Int32)) = 10 → (vp_in (x4 + (1 : Int32)) L ∧ (∃ k193 k194 : Nat, k193 ≤ nc ∧ k194 ≤ ns ∧ wp_La_take e0 mi x1 (xs (x4 + (1 : Int32)).toNatClampNeg) w k193 k194 (fun i197 w192 => vp_in (x4 + (1 : Int32)) L ∧ (∃ a199 : Nat, x2 = some a199 ∧ (bw_is w192 a199 6 ∧ (wp_Mo_take e0 mi a199 (xs (x4 + (1 : Int32)).toNatClampNeg) w192 (fun w202 => bw_is w202 a199 6 ∧ (wp_Mo_thrown e0 mi a199 w202 (fun i215 w210 => (i215 = i197 → (wb_La_law_811 e0 mi (wb_La_law_23 e0 mi L xs n) L xs x1 x2 x3 x4 w210 (nc - k193) (ns - k194))) ∧ (¬ i215 = i197 → (False)))))))))))) ∧ (((xs x4.toNatClampNeg) &&& (31 : Int32)) = 11 → (vp_in (x4 + (1 : Int32)) L ∧ (∃ k220 k221 : Nat, k220 ≤ nc ∧ k221 ≤ ns ∧ wp_La_clean e0 mi x1 (xs (x4 + (1 : Int32)).toNatClampNeg) x3 w k220 k221 (fun i224 w219 => vp_in (x4 + (1 : Int32)) L ∧ (∃ a226 : Nat, x2 = some a226 ∧ (bw_is w219 a226 6 ∧ (wp_Mo_clean e0 mi a226 (xs (x4 + (1 : Int32)).toNatClampNeg) w219 (fun i234 w229 => wb_La_law_811 e0 mi (wb_La_law_23 e0 mi L xs n) L xs x1 x2 x3 x4 w229 (nc - k220) (ns - k221))))))))) ∧ (((xs x4.toNatClampNeg) &&& (31 : Int32)) = 12 → (vp_in (x4 + (1 : Int32)) L ∧ (vp_in (x4 + (2 : Int32)) L ∧ (∃ k239 k240 : Nat, k239 ≤ nc ∧ k240 ≤ ns ∧ wp_La_gap e0 mi x1 (xs (x4 + (1 : Int32)).toNatClampNeg) (xs (x4 + (2 : Int32)).toNatClampNeg) x3 w k239 k240 (fun i243 w238 => vp_in (x4 + (1 : Int32)) L ∧ (vp_in (x4 + (2 : Int32)) L ∧ (∃ a246 : Nat, x2 = some a246 ∧ (bw_is w238 a246 6 ∧ (wp_Mo_gap e0 mi a246 (xs (x4 + (1 : Int32)).toNatClampNeg) (xs (x4 + (2 : Int32)).toNatClampNeg) w238 (fun i254 w249 => wb_La_law_811 e0 mi (wb_La_law_23 e0 mi L xs n) L xs x1 x2 x3 x4 w249 (nc - k239) (ns - k240))))))))))) ∧ (((xs x4.toNatClampNeg) &&& (31 : Int32)) = 13 → (vp_in (x4 + (1 : Int32)) L ∧ (vp_in (x4 + (2 : Int32)) L ∧ (∃ k259 k260 : Nat, k259 ≤ nc ∧ k260 ≤ ns ∧ wp_La_told e0 mi x1 (xs (x4 + (1 : Int32)).toNatClampNeg) (xs (x4 + (2 : Int32)).toNatClampNeg) x3 w k259 k260 (fun i263 w258 => vp_in (x4 + (1 : Int32)) L ∧ (vp_in (x4 + (2 : Int32)) L ∧ (∃ a266 : Nat, x2 = some a266 ∧ (bw_is w258 a266 6 ∧ (wp_Mo_told e0 mi a266 (xs (x4 + (1 : Int32)).toNatClampNeg) (xs (x4 + (2 : Int32)).toNatClampNeg) w258 (fun i274 w269 => wb_La_law_811 e0 mi (wb_La_law_23 e0 mi L xs n) L xs x1 x2 x3 x4 w269 (nc - k259) (ns - k260))))))))))) ∧ (((xs x4.toNatClampNeg) &&& (31 : Int32)) = 14 → (vp_in (x4 + (1 : Int32)) L ∧ (vp_in (x4 + (2 : Int32)) L ∧ (∃ k279 k280 : Nat, k279 ≤ nc ∧ k280 ≤ ns ∧ wp_La_known e0 mi x1 (xs (x4 + (1 : Int32)).toNatClampNeg) (xs (x4 + (2 : Int32)).toNatClampNeg) x3 w k279 k280 (fun i283 w278 => vp_in (x4 + (1 : Int32)) L ∧ (vp_in (x4 + (2 : Int32)) L ∧ (∃ a286 : Nat, x2 = some a286 ∧ (bw_is w278 a286 6 ∧ (wp_Mo_known e0 mi a286 (xs (x4 + (1 : Int32)).toNatClampNeg) (xs (x4 + (2 : Int32)).toNatClampNeg) w278 (fun i294 w289 => wb_La_law_811 e0 mi (wb_La_law_23 e0 mi L xs n) L xs x1 x2 x3 x4 w289 (nc - k279) (ns - k280))))))))))) ∧ (((xs x4.toNatClampNeg) &&& (31 : Int32)) = 15 → (vp_in (x4 + (1 : Int32)) L ∧ (∃ k298 k299 : Nat, k298 ≤ nc ∧ k299 ≤ ns ∧ wp_La_order e0 mi x1 (xs (x4 + (1 : Int32)).toNatClampNeg) x3 w k298 k299 (fun i302 w297 => vp_in (x4 + (1 : Int32)) L ∧ (∃ a304 : Nat, x2 = some a304 ∧ (bw_is w297 a304 6 ∧ (wp_Mo_order e0 mi a304 (xs (x4 + (1 : Int32)).toNatClampNeg) w297 (fun i312 w307 => wb_La_law_811 e0 mi (wb_La_law_23 e0 mi L xs n) L xs x1 x2 x3 x4 w307 (nc - k298) (ns - k299))))))))) ∧ (((xs x4.toNatClampNeg) &&& (31 : Int32)) = 16 → (∃ k315 k316 : Nat, k315 ≤ nc ∧ k316 ≤ ns ∧ wp_La_mean e0 mi x1 x3 w k315 k316 (fun i319 w314 => ∃ a320 : Nat, x2 = some a320 ∧ (bw_is w314 a320 6 ∧ (wp_Mo_mean e0 mi a320 w314 (fun i328 w323 => wb_La_law_811 e0 mi (wb_La_law_23 e0 mi L xs n) L xs x1 x2 x3 x4 w323 (nc - k315) (ns - k316))))))) ∧ (((xs x4.toNatClampNeg) &&& (31 : Int32)) = 17 → (vp_in (x4 + (1 : Int32)) L ∧ (∃ a330 : Nat, x1 = some a330 ∧ (bw_is w a330 5 ∧ (wp_Br_count e0 mi a330 (xs (x4 + (1 : Int32)).toNatClampNeg) w (fun i338 w333 => vp_in (x4 + (1 : Int32)) L ∧ (∃ a340 : Nat, x2 = some a340 ∧ (bw_is w333 a340 6 ∧ (wp_Mo_count e0 mi a340 (xs (x4 + (1 : Int32)).toNatClampNeg) w333 (fun i348 w343 => wb_La_law_811 e0 mi (wb_La_law_23 e0 mi L xs n) L xs x1 x2 x3 x4 w343 nc ns)))))))))) ∧ ((((xs x4.toNatClampNeg) &&& (31 : Int32)).toInt < 0 ∨ 17 < ((xs x4.toNatClampNeg) &&& (31 : Int32)).toInt) → (wb_La_law_811 e0 mi (wb_La_law_23 e0 mi L xs n) L xs x1 x2 x3 x4 w nc ns)))))
set_option maxHeartbeats 4000000 in
set_option maxRecDepth 100000 in
theorem k_La_law_23 {p : Program} {l : Launch} {e : Env} {s : State} {m : MethodId} {below : List Frame} {meth : Method} {c : Code} {D : va_G} {AC : Nat → ClassId} {e0 mi : Nat} {x0 L : Nat} {xs : Nat → Int32} (C : Cx p l s m #[Value.ref x0] meth c D AC e0 mi (fun q : Nat => s.heap.size ≤ q) n_La_law b_La_law 7 (some .boolean)) (hX : va_X x0 L xs s s.heap) (hbl : x0 < s.heap.size) : ∀ (n : Nat) (x1 : Option Nat) (x2 : Option Nat) (x3 : Option Nat) (x4 : Int32) (w : Wd) (nc ns : Nat), wb_La_law_23 e0 mi L xs n x1 x2 x3 x4 w nc ns → ∀ (H : Heap) (locs : List Loc) (cells slots : Nat) (ls : Array Slot), HW D cls8 FTc AC (fun q : Nat => s.heap.size ≤ q) s.heap H locs w → lv_has ls 7 [(0, va_rf (some x0)), (1, va_rf x1), (2, va_rf x2), (3, va_rf x3), (4, .int x4)] → cells + nc ≤ 601024 → slots + ns ≤ 7293034 → W p l e room_1 s m #[Value.ref x0] below meth c H locs cells slots (lw_Z below #[Value.ref x0] s) (F0 m 23 ls []) := by
  obtain ⟨hl0, hx, hb, hr, ht, hown, hlocks, hnm, hml, hex, hK, hA, hZ, hV⟩ := id C
  have hbA : ¬ (fun q : Nat => s.heap.size ≤ q) x0 := Nat.not_le.mpr hbl
  intro n
  induction n with
  | zero =>
    intro x1 x2 x3 x4 w nc ns hq
    exact hq.elim
  | succ n ih =>
    intro x1 x2 x3 x4 w nc ns hq H locs cells slots ls hW hl hc hs
    have hK23 := ih
    unfold wb_La_law_23 at hq
    refine lv_iload hx hb d_La_law_23 (lv_at hl 4 rfl) ?_
    refine bw_aload_n hx hb d_La_law_25 rfl (lv_at hl 0 rfl) ?_
    refine va_slen hx hb hX hbl hbA hW.2.2 d_La_law_26 ?_
    refine lv_iconst (v := 5) hx hb d_La_law_27 (by decide) ?_
    refine lv_isub hx hb d_La_law_28 ?_
    refine lv_icmp_gt (tgt := 817) hx hb d_La_law_29 (by decide) (fun c1 => ?_) (fun c1 => ?_)
    · have hq := hq.1 c1
      refine lv_iconst (v := 1) hx hb d_La_law_817 (by decide) ?_
      refine va_forget (fun q h => hW.2.2.2.2 q h) ?_
      exact W.widen (Nat.le_trans (Nat.le_add_right _ _) hc) (Nat.le_trans (Nat.le_add_right _ _) hs) (lw_ret hx hb hr hlocks d_La_law_818)
    · have hq := hq.2 c1
      refine bw_aload_n hx hb d_La_law_32 rfl (lv_at hl 0 rfl) ?_
      refine lv_iload hx hb d_La_law_33 (lv_at hl 4 rfl) ?_
      obtain ⟨h2, hq⟩ := hq
      refine va_sld hx hb hX hbl hbA hW.2.2 h2 d_La_law_35 ?_
      refine lv_bipush (v := 31) hx hb d_La_law_36 (by decide) ?_
      refine lv_iand hx hb d_La_law_38 ?_
      by_cases c3 : ((xs x4.toNatClampNeg) &&& (31 : Int32)).toInt < 0 ∨ 17 < ((xs x4.toNatClampNeg) &&& (31 : Int32)).toInt
      · have hq := hq.2.2.2.2.2.2.2.2.2.2.2.2.2.2.2.2.2.2 c3
        refine lv_tableOut (tgt := 811) hx hb d_La_law_39 c3 (by decide) ?_
        exact k_La_law_811 C hX hbl hK23 _ _ _ _ _ _ _ hq _ _ _ _ _ hW (lv_sub hl [0, 1, 2, 3, 4] rfl) hc hs
      · have c32 : ((xs x4.toNatClampNeg) &&& (31 : Int32)) = 0 ∨ ((xs x4.toNatClampNeg) &&& (31 : Int32)) = 1 ∨ ((xs x4.toNatClampNeg) &&& (31 : Int32)) = 2 ∨ ((xs x4.toNatClampNeg) &&& (31 : Int32)) = 3 ∨ ((xs x4.toNatClampNeg) &&& (31 : Int32)) = 4 ∨ ((xs x4.toNatClampNeg) &&& (31 : Int32)) = 5 ∨ ((xs x4.toNatClampNeg) &&& (31 : Int32)) = 6 ∨ ((xs x4.toNatClampNeg) &&& (31 : Int32)) = 7 ∨ ((xs x4.toNatClampNeg) &&& (31 : Int32)) = 8 ∨ ((xs x4.toNatClampNeg) &&& (31 : Int32)) = 9 ∨ ((xs x4.toNatClampNeg) &&& (31 : Int32)) = 10 ∨ ((xs x4.toNatClampNeg) &&& (31 : Int32)) = 11 ∨ ((xs x4.toNatClampNeg) &&& (31 : Int32)) = 12 ∨ ((xs x4.toNatClampNeg) &&& (31 : Int32)) = 13 ∨ ((xs x4.toNatClampNeg) &&& (31 : Int32)) = 14 ∨ ((xs x4.toNatClampNeg) &&& (31 : Int32)) = 15 ∨ ((xs x4.toNatClampNeg) &&& (31 : Int32)) = 16 ∨ ((xs x4.toNatClampNeg) &&& (31 : Int32)) = 17 := bw_sw18 c3
        rcases c32 with c3 | c3 | c3 | c3 | c3 | c3 | c3 | c3 | c3 | c3 | c3 | c3 | c3 | c3 | c3 | c3 | c3 | c3
        · have hq := hq.1 c3
          refine lv_tableIn (tgt := 124) hx hb d_La_law_39 (by rw [c3]; decide) (by rw [c3]; decide) (by rw [c3]; rfl) (by decide) ?_
          refine bw_aload_n hx hb d_La_law_124 rfl (lv_at hl 1 rfl) ?_
          refine bw_aload_n hx hb d_La_law_125 rfl (lv_at hl 0 rfl) ?_
          refine lv_iload hx hb d_La_law_126 (lv_at hl 4 rfl) ?_
          refine lv_iconst (v := 1) hx hb d_La_law_128 (by decide) ?_
          refine lv_iadd hx hb d_La_law_129 ?_
          obtain ⟨h4, hq⟩ := hq
          refine va_sld hx hb hX hbl hbA hW.2.2 h4 d_La_law_130 ?_
          refine bw_aload_n hx hb d_La_law_131 rfl (lv_at hl 0 rfl) ?_
          refine lv_iload hx hb d_La_law_132 (lv_at hl 4 rfl) ?_
          refine lv_iconst (v := 2) hx hb d_La_law_134 (by decide) ?_
          refine lv_iadd hx hb d_La_law_135 ?_
          obtain ⟨h5, hq⟩ := hq
          refine va_sld hx hb hX hbl hbA hW.2.2 h5 d_La_law_136 ?_
          refine bw_aload_n hx hb d_La_law_137 rfl (lv_at hl 3 rfl) ?_
          obtain ⟨k8, k9, h10, h11, hq⟩ := hq
          refine bw_callSW (nA := 4) (hh := [(0, 10, 13, 13), (0, 10, 17, 15)]) (As := [va_rf x1, .int (xs (x4 + (1 : Int32)).toNatClampNeg), .int (xs (x4 + (2 : Int32)).toNatClampNeg), va_rf x3]) (rest := []) C hW m_116 m_0 m_114 m_115 (by decide) (by decide +kernel) d_La_law_138 rfl rfl hl.1 (by decide) ⟨Nat.le_of_ble_eq_true rfl, Nat.le_of_ble_eq_true rfl⟩ ⟨Nat.le_trans (Nat.add_le_add_left h10 _) hc, Nat.le_trans (Nat.add_le_add_left h11 _) hs⟩ (c_La_belt hl0 _ _ _ _ _ _ _ hq) (fun v6 w7 H locs hv hW => ?_)
          obtain ⟨i12, rfl, hq⟩ := hv
          have hc := bw_bud hc h10
          have hs := bw_bud hs h11
          refine W.eq (g2 := F0 m 141 ls [.int i12]) rfl ?_
          refine lv_istore (lv' := [(5, .int i12), (0, va_rf (some x0)), (1, va_rf x1), (2, va_rf x2), (3, va_rf x3), (4, .int x4)]) hx hb d_La_law_141 hl (by decide) (by simp [bw_cat, cat_i, cat_j]) (fun ls hl => ?_)
          refine bw_aload_n hx hb d_La_law_143 rfl (lv_at hl 3 rfl) ?_
          refine bw_aload_n hx hb d_La_law_144 rfl (lv_at hl 1 rfl) ?_
          refine lv_iload hx hb d_La_law_145 (lv_at hl 5 rfl) ?_
          refine lv_iconst (v := 1) hx hb d_La_law_147 (by decide) ?_
          refine lv_iadd hx hb d_La_law_148 ?_
          obtain ⟨h13, hq⟩ := hq
          refine va_sld hx hb hX hbl hbA hW.2.2 h13 d_La_law_149 ?_
          refine bw_aload_n hx hb d_La_law_150 rfl (lv_at hl 1 rfl) ?_
          refine lv_iload hx hb d_La_law_151 (lv_at hl 5 rfl) ?_
          refine lv_iconst (v := 2) hx hb d_La_law_153 (by decide) ?_
          refine lv_iadd hx hb d_La_law_154 ?_
          obtain ⟨h14, hq⟩ := hq
          refine va_sld hx hb hX hbl hbA hW.2.2 h14 d_La_law_155 ?_
          obtain ⟨a15, ea15, hq⟩ := hq
          obtain ⟨t16, hq⟩ := hq
          refine bw_callV (As := [.int (xs (x4 + (1 : Int32)).toNatClampNeg), .int (xs (x4 + (2 : Int32)).toNatClampNeg)]) (rest := []) C hW ci_Mo_belt m_848 m_849 m_850 d_La_law_156 ea15 t16 (by decide) rfl rfl rfl hl.1 (by decide) ⟨Nat.le_of_ble_eq_true rfl, Nat.le_of_ble_eq_true rfl⟩ ⟨Nat.le_trans (Nat.add_le_add_left (Nat.zero_le _) _) hc, Nat.le_trans (Nat.add_le_add_left (Nat.zero_le _) _) hs⟩ (c_Mo_belt hl0 _ _ _ _ hq) (fun _ _ _ _ _ _ h => h.elim) (fun v17 w18 H locs hv hW => ?_)
          obtain ⟨i23, rfl, hq⟩ := hv
          have hc := bw_bud0 hc
          have hs := bw_bud0 hs
          refine W.eq (g2 := F0 m 159 ls [.int i23]) rfl ?_
          refine lv_istore (lv' := [(6, .int i23), (5, .int i12), (0, va_rf (some x0)), (1, va_rf x1), (2, va_rf x2), (3, va_rf x3), (4, .int x4)]) hx hb d_La_law_159 hl (by decide) (by simp [bw_cat, cat_i, cat_j]) (fun ls hl => ?_)
          refine lv_goto (tgt := 811) hx hb d_La_law_161 (by decide) ?_
          exact k_La_law_811 C hX hbl hK23 _ _ _ _ _ _ _ hq _ _ _ _ _ hW (lv_sub hl [2, 3, 4, 5, 6] rfl) hc hs
        · have hq := hq.2.1 c3
          refine lv_tableIn (tgt := 164) hx hb d_La_law_39 (by rw [c3]; decide) (by rw [c3]; decide) (by rw [c3]; rfl) (by decide) ?_
          refine bw_aload_n hx hb d_La_law_164 rfl (lv_at hl 1 rfl) ?_
          refine bw_aload_n hx hb d_La_law_165 rfl (lv_at hl 0 rfl) ?_
          refine lv_iload hx hb d_La_law_166 (lv_at hl 4 rfl) ?_
          refine lv_iconst (v := 1) hx hb d_La_law_168 (by decide) ?_
          refine lv_iadd hx hb d_La_law_169 ?_
          obtain ⟨h24, hq⟩ := hq
          refine va_sld hx hb hX hbl hbA hW.2.2 h24 d_La_law_170 ?_
          refine bw_aload_n hx hb d_La_law_171 rfl (lv_at hl 0 rfl) ?_
          refine lv_iload hx hb d_La_law_172 (lv_at hl 4 rfl) ?_
          refine lv_iconst (v := 2) hx hb d_La_law_174 (by decide) ?_
          refine lv_iadd hx hb d_La_law_175 ?_
          obtain ⟨h25, hq⟩ := hq
          refine va_sld hx hb hX hbl hbA hW.2.2 h25 d_La_law_176 ?_
          refine bw_aload_n hx hb d_La_law_177 rfl (lv_at hl 0 rfl) ?_
          refine lv_iload hx hb d_La_law_178 (lv_at hl 4 rfl) ?_
          refine lv_iconst (v := 3) hx hb d_La_law_180 (by decide) ?_
          refine lv_iadd hx hb d_La_law_181 ?_
          obtain ⟨h26, hq⟩ := hq
          refine va_sld hx hb hX hbl hbA hW.2.2 h26 d_La_law_182 ?_
          refine bw_aload_n hx hb d_La_law_183 rfl (lv_at hl 0 rfl) ?_
          refine lv_iload hx hb d_La_law_184 (lv_at hl 4 rfl) ?_
          refine lv_iconst (v := 4) hx hb d_La_law_186 (by decide) ?_
          refine lv_iadd hx hb d_La_law_187 ?_
          obtain ⟨h27, hq⟩ := hq
          refine va_sld hx hb hX hbl hbA hW.2.2 h27 d_La_law_188 ?_
          refine bw_aload_n hx hb d_La_law_189 rfl (lv_at hl 3 rfl) ?_
          obtain ⟨k30, k31, h32, h33, hq⟩ := hq
          refine bw_callSW (nA := 6) (hh := [(0, 14, 17, 21), (0, 14, 21, 13)]) (As := [va_rf x1, .int (xs (x4 + (1 : Int32)).toNatClampNeg), .int (xs (x4 + (2 : Int32)).toNatClampNeg), .int (xs (x4 + (3 : Int32)).toNatClampNeg), .int (xs (x4 + (4 : Int32)).toNatClampNeg), va_rf x3]) (rest := []) C hW m_336 m_0 m_334 m_335 (by decide) (by decide +kernel) d_La_law_190 rfl rfl hl.1 (by decide) ⟨Nat.le_of_ble_eq_true rfl, Nat.le_of_ble_eq_true rfl⟩ ⟨Nat.le_trans (Nat.add_le_add_left h32 _) hc, Nat.le_trans (Nat.add_le_add_left h33 _) hs⟩ (c_La_join hl0 _ _ _ _ _ _ _ _ _ hq) (fun v28 w29 H locs hv hW => ?_)
          obtain ⟨i34, rfl, hq⟩ := hv
          have hc := bw_bud hc h32
          have hs := bw_bud hs h33
          refine W.eq (g2 := F0 m 193 ls [.int i34]) rfl ?_
          refine lv_istore (lv' := [(5, .int i34), (0, va_rf (some x0)), (1, va_rf x1), (2, va_rf x2), (3, va_rf x3), (4, .int x4)]) hx hb d_La_law_193 hl (by decide) (by simp [bw_cat, cat_i, cat_j]) (fun ls hl => ?_)
          refine bw_aload_n hx hb d_La_law_195 rfl (lv_at hl 3 rfl) ?_
          refine bw_aload_n hx hb d_La_law_196 rfl (lv_at hl 1 rfl) ?_
          refine lv_iload hx hb d_La_law_197 (lv_at hl 5 rfl) ?_
          refine lv_iconst (v := 1) hx hb d_La_law_199 (by decide) ?_
          refine lv_iadd hx hb d_La_law_200 ?_
          obtain ⟨h35, hq⟩ := hq
          refine va_sld hx hb hX hbl hbA hW.2.2 h35 d_La_law_201 ?_
          refine bw_aload_n hx hb d_La_law_202 rfl (lv_at hl 1 rfl) ?_
          refine lv_iload hx hb d_La_law_203 (lv_at hl 5 rfl) ?_
          refine lv_iconst (v := 2) hx hb d_La_law_205 (by decide) ?_
          refine lv_iadd hx hb d_La_law_206 ?_
          obtain ⟨h36, hq⟩ := hq
          refine va_sld hx hb hX hbl hbA hW.2.2 h36 d_La_law_207 ?_
          refine bw_aload_n hx hb d_La_law_208 rfl (lv_at hl 1 rfl) ?_
          refine lv_iload hx hb d_La_law_209 (lv_at hl 5 rfl) ?_
          refine lv_iconst (v := 3) hx hb d_La_law_211 (by decide) ?_
          refine lv_iadd hx hb d_La_law_212 ?_
          obtain ⟨h37, hq⟩ := hq
          refine va_sld hx hb hX hbl hbA hW.2.2 h37 d_La_law_213 ?_
          refine bw_aload_n hx hb d_La_law_214 rfl (lv_at hl 1 rfl) ?_
          refine lv_iload hx hb d_La_law_215 (lv_at hl 5 rfl) ?_
          refine lv_iconst (v := 4) hx hb d_La_law_217 (by decide) ?_
          refine lv_iadd hx hb d_La_law_218 ?_
          obtain ⟨h38, hq⟩ := hq
          refine va_sld hx hb hX hbl hbA hW.2.2 h38 d_La_law_219 ?_
          obtain ⟨a39, ea39, hq⟩ := hq
          obtain ⟨t40, hq⟩ := hq
          refine bw_callV (As := [.int (xs (x4 + (1 : Int32)).toNatClampNeg), .int (xs (x4 + (2 : Int32)).toNatClampNeg), .int (xs (x4 + (3 : Int32)).toNatClampNeg), .int (xs (x4 + (4 : Int32)).toNatClampNeg)]) (rest := []) C hW ci_Mo_join m_855 m_856 m_857 d_La_law_220 ea39 t40 (by decide) rfl rfl rfl hl.1 (by decide) ⟨Nat.le_of_ble_eq_true rfl, Nat.le_of_ble_eq_true rfl⟩ ⟨Nat.le_trans (Nat.add_le_add_left (Nat.zero_le _) _) hc, Nat.le_trans (Nat.add_le_add_left (Nat.zero_le _) _) hs⟩ (c_Mo_join hl0 _ _ _ _ _ _ hq) (fun _ _ _ _ _ _ h => h.elim) (fun v41 w42 H locs hv hW => ?_)
          obtain ⟨i47, rfl, hq⟩ := hv
          have hc := bw_bud0 hc
          have hs := bw_bud0 hs
          refine W.eq (g2 := F0 m 223 ls [.int i47]) rfl ?_
          refine lv_istore (lv' := [(6, .int i47), (5, .int i34), (0, va_rf (some x0)), (1, va_rf x1), (2, va_rf x2), (3, va_rf x3), (4, .int x4)]) hx hb d_La_law_223 hl (by decide) (by simp [bw_cat, cat_i, cat_j]) (fun ls hl => ?_)
          refine lv_goto (tgt := 811) hx hb d_La_law_225 (by decide) ?_
          exact k_La_law_811 C hX hbl hK23 _ _ _ _ _ _ _ hq _ _ _ _ _ hW (lv_sub hl [2, 3, 4, 5, 6] rfl) hc hs
        · have hq := hq.2.2.1 c3
          refine lv_tableIn (tgt := 228) hx hb d_La_law_39 (by rw [c3]; decide) (by rw [c3]; decide) (by rw [c3]; rfl) (by decide) ?_
          refine bw_aload_n hx hb d_La_law_228 rfl (lv_at hl 1 rfl) ?_
          refine bw_aload_n hx hb d_La_law_229 rfl (lv_at hl 0 rfl) ?_
          refine lv_iload hx hb d_La_law_230 (lv_at hl 4 rfl) ?_
          refine lv_iconst (v := 1) hx hb d_La_law_232 (by decide) ?_
          refine lv_iadd hx hb d_La_law_233 ?_
          obtain ⟨h48, hq⟩ := hq
          refine va_sld hx hb hX hbl hbA hW.2.2 h48 d_La_law_234 ?_
          refine bw_aload_n hx hb d_La_law_235 rfl (lv_at hl 0 rfl) ?_
          refine lv_iload hx hb d_La_law_236 (lv_at hl 4 rfl) ?_
          refine lv_iconst (v := 2) hx hb d_La_law_238 (by decide) ?_
          refine lv_iadd hx hb d_La_law_239 ?_
          obtain ⟨h49, hq⟩ := hq
          refine va_sld hx hb hX hbl hbA hW.2.2 h49 d_La_law_240 ?_
          refine bw_aload_n hx hb d_La_law_241 rfl (lv_at hl 0 rfl) ?_
          refine lv_iload hx hb d_La_law_242 (lv_at hl 4 rfl) ?_
          refine lv_iconst (v := 3) hx hb d_La_law_244 (by decide) ?_
          refine lv_iadd hx hb d_La_law_245 ?_
          obtain ⟨h50, hq⟩ := hq
          refine va_sld hx hb hX hbl hbA hW.2.2 h50 d_La_law_246 ?_
          refine lv_if_eq (tgt := 254) hx hb d_La_law_247 (by decide) (fun c51 => ?_) (fun c51 => ?_)
          · have hq := hq.1 c51
            refine lv_iconst (v := 0) hx hb d_La_law_254 (by decide) ?_
            exact k_La_law_255 C hX hbl hK23 _ _ _ _ _ _ _ _ _ _ _ hq _ _ _ _ _ hW (lv_sub hl [0, 1, 2, 3, 4] rfl) hc hs
          · have hq := hq.2 c51
            refine lv_iconst (v := 1) hx hb d_La_law_250 (by decide) ?_
            refine lv_goto (tgt := 255) hx hb d_La_law_251 (by decide) ?_
            exact k_La_law_255 C hX hbl hK23 _ _ _ _ _ _ _ _ _ _ _ hq _ _ _ _ _ hW (lv_sub hl [0, 1, 2, 3, 4] rfl) hc hs
        · have hq := hq.2.2.2.1 c3
          refine lv_tableIn (tgt := 293) hx hb d_La_law_39 (by rw [c3]; decide) (by rw [c3]; decide) (by rw [c3]; rfl) (by decide) ?_
          refine bw_aload_n hx hb d_La_law_293 rfl (lv_at hl 1 rfl) ?_
          refine bw_aload_n hx hb d_La_law_294 rfl (lv_at hl 0 rfl) ?_
          refine lv_iload hx hb d_La_law_295 (lv_at hl 4 rfl) ?_
          refine lv_iconst (v := 1) hx hb d_La_law_297 (by decide) ?_
          refine lv_iadd hx hb d_La_law_298 ?_
          obtain ⟨h52, hq⟩ := hq
          refine va_sld hx hb hX hbl hbA hW.2.2 h52 d_La_law_299 ?_
          obtain ⟨k55, k56, h57, h58, hq⟩ := hq
          refine bw_callSW (nA := 2) (hh := [(0, 5, 8, 13)]) (As := [va_rf x1, .int (xs (x4 + (1 : Int32)).toNatClampNeg)]) (rest := []) C hW m_384 m_0 m_382 m_383 (by decide) (by decide +kernel) d_La_law_300 rfl rfl hl.1 (by decide) ⟨Nat.le_of_ble_eq_true rfl, Nat.le_of_ble_eq_true rfl⟩ ⟨Nat.le_trans (Nat.add_le_add_left h57 _) hc, Nat.le_trans (Nat.add_le_add_left h58 _) hs⟩ (c_La_gaps hl0 _ _ _ _ _ hq) (fun v53 w54 H locs hv hW => ?_)
          obtain ⟨i59, rfl, hq⟩ := hv
          have hc := bw_bud hc h57
          have hs := bw_bud hs h58
          refine W.eq (g2 := F0 m 303 ls [.int i59]) rfl ?_
          refine lv_istore (lv' := [(5, .int i59), (0, va_rf (some x0)), (1, va_rf x1), (2, va_rf x2), (3, va_rf x3), (4, .int x4)]) hx hb d_La_law_303 hl (by decide) (by simp [bw_cat, cat_i, cat_j]) (fun ls hl => ?_)
          refine bw_aload_n hx hb d_La_law_305 rfl (lv_at hl 3 rfl) ?_
          refine bw_aload_n hx hb d_La_law_306 rfl (lv_at hl 1 rfl) ?_
          refine lv_iload hx hb d_La_law_307 (lv_at hl 5 rfl) ?_
          refine lv_iconst (v := 1) hx hb d_La_law_309 (by decide) ?_
          refine lv_iadd hx hb d_La_law_310 ?_
          obtain ⟨h60, hq⟩ := hq
          refine va_sld hx hb hX hbl hbA hW.2.2 h60 d_La_law_311 ?_
          obtain ⟨a61, ea61, hq⟩ := hq
          obtain ⟨t62, hq⟩ := hq
          refine bw_callV (As := [.int (xs (x4 + (1 : Int32)).toNatClampNeg)]) (rest := []) C hW ci_Mo_gaps m_867 m_868 m_869 d_La_law_312 ea61 t62 (by decide) rfl rfl rfl hl.1 (by decide) ⟨Nat.le_of_ble_eq_true rfl, Nat.le_of_ble_eq_true rfl⟩ ⟨Nat.le_trans (Nat.add_le_add_left (Nat.zero_le _) _) hc, Nat.le_trans (Nat.add_le_add_left (Nat.zero_le _) _) hs⟩ (c_Mo_gaps hl0 _ _ _ hq) (fun _ _ _ _ _ _ h => h.elim) (fun v63 w64 H locs hv hW => ?_)
          obtain ⟨rfl, hq⟩ := hv
          have hc := bw_bud0 hc
          have hs := bw_bud0 hs
          refine W.eq (g2 := F0 m 315 ls []) rfl ?_
          refine lv_goto (tgt := 811) hx hb d_La_law_315 (by decide) ?_
          exact k_La_law_811 C hX hbl hK23 _ _ _ _ _ _ _ hq _ _ _ _ _ hW (lv_sub hl [1, 2, 3, 4, 5] rfl) hc hs
        · have hq := hq.2.2.2.2.1 c3
          refine lv_tableIn (tgt := 318) hx hb d_La_law_39 (by rw [c3]; decide) (by rw [c3]; decide) (by rw [c3]; rfl) (by decide) ?_
          refine bw_aload_n hx hb d_La_law_318 rfl (lv_at hl 1 rfl) ?_
          refine bw_aload_n hx hb d_La_law_319 rfl (lv_at hl 0 rfl) ?_
          refine lv_iload hx hb d_La_law_320 (lv_at hl 4 rfl) ?_
          refine lv_iconst (v := 1) hx hb d_La_law_322 (by decide) ?_
          refine lv_iadd hx hb d_La_law_323 ?_
          obtain ⟨h70, hq⟩ := hq
          refine va_sld hx hb hX hbl hbA hW.2.2 h70 d_La_law_324 ?_
          refine bw_aload_n hx hb d_La_law_325 rfl (lv_at hl 0 rfl) ?_
          refine lv_iload hx hb d_La_law_326 (lv_at hl 4 rfl) ?_
          refine lv_iconst (v := 2) hx hb d_La_law_328 (by decide) ?_
          refine lv_iadd hx hb d_La_law_329 ?_
          obtain ⟨h71, hq⟩ := hq
          refine va_sld hx hb hX hbl hbA hW.2.2 h71 d_La_law_330 ?_
          refine bw_aload_n hx hb d_La_law_331 rfl (lv_at hl 0 rfl) ?_
          refine lv_iload hx hb d_La_law_332 (lv_at hl 4 rfl) ?_
          refine lv_iconst (v := 3) hx hb d_La_law_334 (by decide) ?_
          refine lv_iadd hx hb d_La_law_335 ?_
          obtain ⟨h72, hq⟩ := hq
          refine va_sld hx hb hX hbl hbA hW.2.2 h72 d_La_law_336 ?_
          refine bw_aload_n hx hb d_La_law_337 rfl (lv_at hl 3 rfl) ?_
          obtain ⟨k75, k76, h77, h78, hq⟩ := hq
          refine bw_callSW (nA := 5) (hh := [(0, 12, 15, 21), (0, 12, 19, 13), (0, 12, 23, 15)]) (As := [va_rf x1, .int (xs (x4 + (1 : Int32)).toNatClampNeg), .int (xs (x4 + (2 : Int32)).toNatClampNeg), .int (xs (x4 + (3 : Int32)).toNatClampNeg), va_rf x3]) (rest := []) C hW m_391 m_0 m_389 m_390 (by decide) (by decide +kernel) d_La_law_338 rfl rfl hl.1 (by decide) ⟨Nat.le_of_ble_eq_true rfl, Nat.le_of_ble_eq_true rfl⟩ ⟨Nat.le_trans (Nat.add_le_add_left h77 _) hc, Nat.le_trans (Nat.add_le_add_left h78 _) hs⟩ (c_La_scanner hl0 _ _ _ _ _ _ _ _ hq) (fun v73 w74 H locs hv hW => ?_)
          obtain ⟨i79, rfl, hq⟩ := hv
          have hc := bw_bud hc h77
          have hs := bw_bud hs h78
          refine W.eq (g2 := F0 m 341 ls [.int i79]) rfl ?_
          refine lv_istore (lv' := [(5, .int i79), (0, va_rf (some x0)), (1, va_rf x1), (2, va_rf x2), (3, va_rf x3), (4, .int x4)]) hx hb d_La_law_341 hl (by decide) (by simp [bw_cat, cat_i, cat_j]) (fun ls hl => ?_)
          refine bw_aload_n hx hb d_La_law_343 rfl (lv_at hl 3 rfl) ?_
          refine bw_aload_n hx hb d_La_law_344 rfl (lv_at hl 1 rfl) ?_
          refine lv_iload hx hb d_La_law_345 (lv_at hl 5 rfl) ?_
          refine lv_iconst (v := 1) hx hb d_La_law_347 (by decide) ?_
          refine lv_iadd hx hb d_La_law_348 ?_
          obtain ⟨h80, hq⟩ := hq
          refine va_sld hx hb hX hbl hbA hW.2.2 h80 d_La_law_349 ?_
          refine bw_aload_n hx hb d_La_law_350 rfl (lv_at hl 1 rfl) ?_
          refine lv_iload hx hb d_La_law_351 (lv_at hl 5 rfl) ?_
          refine lv_iconst (v := 2) hx hb d_La_law_353 (by decide) ?_
          refine lv_iadd hx hb d_La_law_354 ?_
          obtain ⟨h81, hq⟩ := hq
          refine va_sld hx hb hX hbl hbA hW.2.2 h81 d_La_law_355 ?_
          refine bw_aload_n hx hb d_La_law_356 rfl (lv_at hl 1 rfl) ?_
          refine lv_iload hx hb d_La_law_357 (lv_at hl 5 rfl) ?_
          refine lv_iconst (v := 3) hx hb d_La_law_359 (by decide) ?_
          refine lv_iadd hx hb d_La_law_360 ?_
          obtain ⟨h82, hq⟩ := hq
          refine va_sld hx hb hX hbl hbA hW.2.2 h82 d_La_law_361 ?_
          obtain ⟨a83, ea83, hq⟩ := hq
          obtain ⟨t84, hq⟩ := hq
          refine bw_callV (As := [.int (xs (x4 + (1 : Int32)).toNatClampNeg), .int (xs (x4 + (2 : Int32)).toNatClampNeg), .int (xs (x4 + (3 : Int32)).toNatClampNeg)]) (rest := []) C hW ci_Mo_scanner m_871 m_872 m_873 d_La_law_362 ea83 t84 (by decide) rfl rfl rfl hl.1 (by decide) ⟨Nat.le_of_ble_eq_true rfl, Nat.le_of_ble_eq_true rfl⟩ ⟨Nat.le_trans (Nat.add_le_add_left (Nat.zero_le _) _) hc, Nat.le_trans (Nat.add_le_add_left (Nat.zero_le _) _) hs⟩ (c_Mo_scanner hl0 _ _ _ _ _ hq) (fun _ _ _ _ _ _ h => h.elim) (fun v85 w86 H locs hv hW => ?_)
          obtain ⟨i91, rfl, hq⟩ := hv
          have hc := bw_bud0 hc
          have hs := bw_bud0 hs
          refine W.eq (g2 := F0 m 365 ls [.int i91]) rfl ?_
          refine lv_istore (lv' := [(6, .int i91), (5, .int i79), (0, va_rf (some x0)), (1, va_rf x1), (2, va_rf x2), (3, va_rf x3), (4, .int x4)]) hx hb d_La_law_365 hl (by decide) (by simp [bw_cat, cat_i, cat_j]) (fun ls hl => ?_)
          refine lv_goto (tgt := 811) hx hb d_La_law_367 (by decide) ?_
          exact k_La_law_811 C hX hbl hK23 _ _ _ _ _ _ _ hq _ _ _ _ _ hW (lv_sub hl [2, 3, 4, 5, 6] rfl) hc hs
        · have hq := hq.2.2.2.2.2.1 c3
          refine lv_tableIn (tgt := 370) hx hb d_La_law_39 (by rw [c3]; decide) (by rw [c3]; decide) (by rw [c3]; rfl) (by decide) ?_
          refine bw_aload_n hx hb d_La_law_370 rfl (lv_at hl 1 rfl) ?_
          refine bw_aload_n hx hb d_La_law_371 rfl (lv_at hl 0 rfl) ?_
          refine lv_iload hx hb d_La_law_372 (lv_at hl 4 rfl) ?_
          refine lv_iconst (v := 1) hx hb d_La_law_374 (by decide) ?_
          refine lv_iadd hx hb d_La_law_375 ?_
          obtain ⟨h92, hq⟩ := hq
          refine va_sld hx hb hX hbl hbA hW.2.2 h92 d_La_law_376 ?_
          refine bw_aload_n hx hb d_La_law_377 rfl (lv_at hl 0 rfl) ?_
          refine lv_iload hx hb d_La_law_378 (lv_at hl 4 rfl) ?_
          refine lv_iconst (v := 2) hx hb d_La_law_380 (by decide) ?_
          refine lv_iadd hx hb d_La_law_381 ?_
          obtain ⟨h93, hq⟩ := hq
          refine va_sld hx hb hX hbl hbA hW.2.2 h93 d_La_law_382 ?_
          refine bw_aload_n hx hb d_La_law_383 rfl (lv_at hl 3 rfl) ?_
          obtain ⟨k96, k97, h98, h99, hq⟩ := hq
          refine bw_callSW (nA := 4) (hh := [(0, 10, 13, 21), (0, 10, 17, 13), (0, 10, 21, 15)]) (As := [va_rf x1, .int (xs (x4 + (1 : Int32)).toNatClampNeg), .int (xs (x4 + (2 : Int32)).toNatClampNeg), va_rf x3]) (rest := []) C hW m_422 m_0 m_420 m_421 (by decide) (by decide +kernel) d_La_law_384 rfl rfl hl.1 (by decide) ⟨Nat.le_of_ble_eq_true rfl, Nat.le_of_ble_eq_true rfl⟩ ⟨Nat.le_trans (Nat.add_le_add_left h98 _) hc, Nat.le_trans (Nat.add_le_add_left h99 _) hs⟩ (c_La_item hl0 _ _ _ _ _ _ _ hq) (fun v94 w95 H locs hv hW => ?_)
          obtain ⟨i100, rfl, hq⟩ := hv
          have hc := bw_bud hc h98
          have hs := bw_bud hs h99
          refine W.eq (g2 := F0 m 387 ls [.int i100]) rfl ?_
          refine lv_istore (lv' := [(5, .int i100), (0, va_rf (some x0)), (1, va_rf x1), (2, va_rf x2), (3, va_rf x3), (4, .int x4)]) hx hb d_La_law_387 hl (by decide) (by simp [bw_cat, cat_i, cat_j]) (fun ls hl => ?_)
          refine bw_aload_n hx hb d_La_law_389 rfl (lv_at hl 3 rfl) ?_
          refine bw_aload_n hx hb d_La_law_390 rfl (lv_at hl 1 rfl) ?_
          refine lv_iload hx hb d_La_law_391 (lv_at hl 5 rfl) ?_
          refine lv_iconst (v := 1) hx hb d_La_law_393 (by decide) ?_
          refine lv_iadd hx hb d_La_law_394 ?_
          obtain ⟨h101, hq⟩ := hq
          refine va_sld hx hb hX hbl hbA hW.2.2 h101 d_La_law_395 ?_
          refine bw_aload_n hx hb d_La_law_396 rfl (lv_at hl 1 rfl) ?_
          refine lv_iload hx hb d_La_law_397 (lv_at hl 5 rfl) ?_
          refine lv_iconst (v := 2) hx hb d_La_law_399 (by decide) ?_
          refine lv_iadd hx hb d_La_law_400 ?_
          obtain ⟨h102, hq⟩ := hq
          refine va_sld hx hb hX hbl hbA hW.2.2 h102 d_La_law_401 ?_
          obtain ⟨a103, ea103, hq⟩ := hq
          obtain ⟨t104, hq⟩ := hq
          refine bw_callV (As := [.int (xs (x4 + (1 : Int32)).toNatClampNeg), .int (xs (x4 + (2 : Int32)).toNatClampNeg)]) (rest := []) C hW ci_Mo_item m_875 m_876 m_877 d_La_law_402 ea103 t104 (by decide) rfl rfl rfl hl.1 (by decide) ⟨Nat.le_of_ble_eq_true rfl, Nat.le_of_ble_eq_true rfl⟩ ⟨Nat.le_trans (Nat.add_le_add_left (Nat.zero_le _) _) hc, Nat.le_trans (Nat.add_le_add_left (Nat.zero_le _) _) hs⟩ (c_Mo_item hl0 _ _ _ _ hq) (fun _ _ _ _ _ _ h => h.elim) (fun v105 w106 H locs hv hW => ?_)
          obtain ⟨i111, rfl, hq⟩ := hv
          have hc := bw_bud0 hc
          have hs := bw_bud0 hs
          refine W.eq (g2 := F0 m 405 ls [.int i111]) rfl ?_
          refine lv_istore (lv' := [(6, .int i111), (5, .int i100), (0, va_rf (some x0)), (1, va_rf x1), (2, va_rf x2), (3, va_rf x3), (4, .int x4)]) hx hb d_La_law_405 hl (by decide) (by simp [bw_cat, cat_i, cat_j]) (fun ls hl => ?_)
          refine lv_goto (tgt := 811) hx hb d_La_law_407 (by decide) ?_
          exact k_La_law_811 C hX hbl hK23 _ _ _ _ _ _ _ hq _ _ _ _ _ hW (lv_sub hl [2, 3, 4, 5, 6] rfl) hc hs
        · have hq := hq.2.2.2.2.2.2.1 c3
          refine lv_tableIn (tgt := 410) hx hb d_La_law_39 (by rw [c3]; decide) (by rw [c3]; decide) (by rw [c3]; rfl) (by decide) ?_
          refine bw_aload_n hx hb d_La_law_410 rfl (lv_at hl 1 rfl) ?_
          refine bw_aload_n hx hb d_La_law_411 rfl (lv_at hl 0 rfl) ?_
          refine lv_iload hx hb d_La_law_412 (lv_at hl 4 rfl) ?_
          refine lv_iconst (v := 1) hx hb d_La_law_414 (by decide) ?_
          refine lv_iadd hx hb d_La_law_415 ?_
          obtain ⟨h112, hq⟩ := hq
          refine va_sld hx hb hX hbl hbA hW.2.2 h112 d_La_law_416 ?_
          refine bw_aload_n hx hb d_La_law_417 rfl (lv_at hl 0 rfl) ?_
          refine lv_iload hx hb d_La_law_418 (lv_at hl 4 rfl) ?_
          refine lv_iconst (v := 2) hx hb d_La_law_420 (by decide) ?_
          refine lv_iadd hx hb d_La_law_421 ?_
          obtain ⟨h113, hq⟩ := hq
          refine va_sld hx hb hX hbl hbA hW.2.2 h113 d_La_law_422 ?_
          refine bw_aload_n hx hb d_La_law_423 rfl (lv_at hl 3 rfl) ?_
          obtain ⟨k116, k117, h118, h119, hq⟩ := hq
          refine bw_callSW (nA := 4) (hh := [(0, 10, 13, 21), (0, 10, 17, 13), (0, 10, 21, 41)]) (As := [va_rf x1, .int (xs (x4 + (1 : Int32)).toNatClampNeg), .int (xs (x4 + (2 : Int32)).toNatClampNeg), va_rf x3]) (rest := []) C hW m_505 m_0 m_503 m_504 (by decide) (by decide +kernel) d_La_law_424 rfl rfl hl.1 (by decide) ⟨Nat.le_of_ble_eq_true rfl, Nat.le_of_ble_eq_true rfl⟩ ⟨Nat.le_trans (Nat.add_le_add_left h118 _) hc, Nat.le_trans (Nat.add_le_add_left h119 _) hs⟩ (c_La_divert hl0 _ _ _ _ _ _ _ hq) (fun v114 w115 H locs hv hW => ?_)
          obtain ⟨i120, rfl, hq⟩ := hv
          have hc := bw_bud hc h118
          have hs := bw_bud hs h119
          refine W.eq (g2 := F0 m 427 ls [.int i120]) rfl ?_
          refine lv_istore (lv' := [(5, .int i120), (0, va_rf (some x0)), (1, va_rf x1), (2, va_rf x2), (3, va_rf x3), (4, .int x4)]) hx hb d_La_law_427 hl (by decide) (by simp [bw_cat, cat_i, cat_j]) (fun ls hl => ?_)
          refine bw_aload_n hx hb d_La_law_429 rfl (lv_at hl 3 rfl) ?_
          refine bw_aload_n hx hb d_La_law_430 rfl (lv_at hl 1 rfl) ?_
          refine lv_iload hx hb d_La_law_431 (lv_at hl 5 rfl) ?_
          refine lv_iconst (v := 1) hx hb d_La_law_433 (by decide) ?_
          refine lv_iadd hx hb d_La_law_434 ?_
          obtain ⟨h121, hq⟩ := hq
          refine va_sld hx hb hX hbl hbA hW.2.2 h121 d_La_law_435 ?_
          refine bw_aload_n hx hb d_La_law_436 rfl (lv_at hl 1 rfl) ?_
          refine lv_iload hx hb d_La_law_437 (lv_at hl 5 rfl) ?_
          refine lv_iconst (v := 2) hx hb d_La_law_439 (by decide) ?_
          refine lv_iadd hx hb d_La_law_440 ?_
          obtain ⟨h122, hq⟩ := hq
          refine va_sld hx hb hX hbl hbA hW.2.2 h122 d_La_law_441 ?_
          obtain ⟨a123, ea123, hq⟩ := hq
          obtain ⟨t124, hq⟩ := hq
          refine bw_callV (As := [.int (xs (x4 + (1 : Int32)).toNatClampNeg), .int (xs (x4 + (2 : Int32)).toNatClampNeg)]) (rest := []) C hW ci_Mo_divert m_895 m_896 m_897 d_La_law_442 ea123 t124 (by decide) rfl rfl rfl hl.1 (by decide) ⟨Nat.le_of_ble_eq_true rfl, Nat.le_of_ble_eq_true rfl⟩ ⟨Nat.le_trans (Nat.add_le_add_left (Nat.zero_le _) _) hc, Nat.le_trans (Nat.add_le_add_left (Nat.zero_le _) _) hs⟩ (c_Mo_divert hl0 _ _ _ _ hq) (fun _ _ _ _ _ _ h => h.elim) (fun v125 w126 H locs hv hW => ?_)
          obtain ⟨i131, rfl, hq⟩ := hv
          have hc := bw_bud0 hc
          have hs := bw_bud0 hs
          refine W.eq (g2 := F0 m 445 ls [.int i131]) rfl ?_
          refine lv_istore (lv' := [(6, .int i131), (5, .int i120), (0, va_rf (some x0)), (1, va_rf x1), (2, va_rf x2), (3, va_rf x3), (4, .int x4)]) hx hb d_La_law_445 hl (by decide) (by simp [bw_cat, cat_i, cat_j]) (fun ls hl => ?_)
          refine lv_goto (tgt := 811) hx hb d_La_law_447 (by decide) ?_
          exact k_La_law_811 C hX hbl hK23 _ _ _ _ _ _ _ hq _ _ _ _ _ hW (lv_sub hl [2, 3, 4, 5, 6] rfl) hc hs
        · have hq := hq.2.2.2.2.2.2.2.1 c3
          refine lv_tableIn (tgt := 450) hx hb d_La_law_39 (by rw [c3]; decide) (by rw [c3]; decide) (by rw [c3]; rfl) (by decide) ?_
          refine bw_aload_n hx hb d_La_law_450 rfl (lv_at hl 1 rfl) ?_
          refine bw_aload_n hx hb d_La_law_451 rfl (lv_at hl 0 rfl) ?_
          refine lv_iload hx hb d_La_law_452 (lv_at hl 4 rfl) ?_
          refine lv_iconst (v := 1) hx hb d_La_law_454 (by decide) ?_
          refine lv_iadd hx hb d_La_law_455 ?_
          obtain ⟨h132, hq⟩ := hq
          refine va_sld hx hb hX hbl hbA hW.2.2 h132 d_La_law_456 ?_
          refine bw_aload_n hx hb d_La_law_457 rfl (lv_at hl 3 rfl) ?_
          obtain ⟨k135, k136, h137, h138, hq⟩ := hq
          refine bw_callSW (nA := 3) (hh := [(0, 9, 12, 13)]) (As := [va_rf x1, .int (xs (x4 + (1 : Int32)).toNatClampNeg), va_rf x3]) (rest := []) C hW m_537 m_0 m_535 m_536 (by decide) (by decide +kernel) d_La_law_458 rfl rfl hl.1 (by decide) ⟨Nat.le_of_ble_eq_true rfl, Nat.le_of_ble_eq_true rfl⟩ ⟨Nat.le_trans (Nat.add_le_add_left h137 _) hc, Nat.le_trans (Nat.add_le_add_left h138 _) hs⟩ (c_La_step hl0 _ _ _ _ _ _ hq) (fun v133 w134 H locs hv hW => ?_)
          obtain ⟨i139, rfl, hq⟩ := hv
          have hc := bw_bud hc h137
          have hs := bw_bud hs h138
          refine W.eq (g2 := F0 m 461 ls [.int i139]) rfl ?_
          refine lv_istore (lv' := [(5, .int i139), (0, va_rf (some x0)), (1, va_rf x1), (2, va_rf x2), (3, va_rf x3), (4, .int x4)]) hx hb d_La_law_461 hl (by decide) (by simp [bw_cat, cat_i, cat_j]) (fun ls hl => ?_)
          refine bw_aload_n hx hb d_La_law_463 rfl (lv_at hl 3 rfl) ?_
          refine bw_aload_n hx hb d_La_law_464 rfl (lv_at hl 1 rfl) ?_
          refine lv_iload hx hb d_La_law_465 (lv_at hl 5 rfl) ?_
          refine lv_iconst (v := 1) hx hb d_La_law_467 (by decide) ?_
          refine lv_iadd hx hb d_La_law_468 ?_
          obtain ⟨h140, hq⟩ := hq
          refine va_sld hx hb hX hbl hbA hW.2.2 h140 d_La_law_469 ?_
          obtain ⟨a141, ea141, hq⟩ := hq
          obtain ⟨t142, hq⟩ := hq
          refine bw_callV (As := [.int (xs (x4 + (1 : Int32)).toNatClampNeg)]) (rest := []) C hW ci_Mo_step m_903 m_904 m_905 d_La_law_470 ea141 t142 (by decide) rfl rfl rfl hl.1 (by decide) ⟨Nat.le_of_ble_eq_true rfl, Nat.le_of_ble_eq_true rfl⟩ ⟨Nat.le_trans (Nat.add_le_add_left (Nat.zero_le _) _) hc, Nat.le_trans (Nat.add_le_add_left (Nat.zero_le _) _) hs⟩ (c_Mo_step hl0 _ _ _ hq) (fun _ _ _ _ _ _ h => h.elim) (fun v143 w144 H locs hv hW => ?_)
          obtain ⟨i149, rfl, hq⟩ := hv
          have hc := bw_bud0 hc
          have hs := bw_bud0 hs
          refine W.eq (g2 := F0 m 473 ls [.int i149]) rfl ?_
          refine lv_istore (lv' := [(6, .int i149), (5, .int i139), (0, va_rf (some x0)), (1, va_rf x1), (2, va_rf x2), (3, va_rf x3), (4, .int x4)]) hx hb d_La_law_473 hl (by decide) (by simp [bw_cat, cat_i, cat_j]) (fun ls hl => ?_)
          refine lv_goto (tgt := 811) hx hb d_La_law_475 (by decide) ?_
          exact k_La_law_811 C hX hbl hK23 _ _ _ _ _ _ _ hq _ _ _ _ _ hW (lv_sub hl [2, 3, 4, 5, 6] rfl) hc hs
        · have hq := hq.2.2.2.2.2.2.2.2.1 c3
          refine lv_tableIn (tgt := 478) hx hb d_La_law_39 (by rw [c3]; decide) (by rw [c3]; decide) (by rw [c3]; rfl) (by decide) ?_
          refine bw_aload_n hx hb d_La_law_478 rfl (lv_at hl 1 rfl) ?_
          refine bw_aload_n hx hb d_La_law_479 rfl (lv_at hl 0 rfl) ?_
          refine lv_iload hx hb d_La_law_480 (lv_at hl 4 rfl) ?_
          refine lv_iconst (v := 1) hx hb d_La_law_482 (by decide) ?_
          refine lv_iadd hx hb d_La_law_483 ?_
          obtain ⟨h150, hq⟩ := hq
          refine va_sld hx hb hX hbl hbA hW.2.2 h150 d_La_law_484 ?_
          refine bw_aload_n hx hb d_La_law_485 rfl (lv_at hl 0 rfl) ?_
          refine lv_iload hx hb d_La_law_486 (lv_at hl 4 rfl) ?_
          refine lv_iconst (v := 2) hx hb d_La_law_488 (by decide) ?_
          refine lv_iadd hx hb d_La_law_489 ?_
          obtain ⟨h151, hq⟩ := hq
          refine va_sld hx hb hX hbl hbA hW.2.2 h151 d_La_law_490 ?_
          refine bw_aload_n hx hb d_La_law_491 rfl (lv_at hl 3 rfl) ?_
          obtain ⟨k154, k155, h156, h157, hq⟩ := hq
          refine bw_callSW (nA := 4) (hh := [(0, 10, 13, 21), (0, 10, 17, 13)]) (As := [va_rf x1, .int (xs (x4 + (1 : Int32)).toNatClampNeg), .int (xs (x4 + (2 : Int32)).toNatClampNeg), va_rf x3]) (rest := []) C hW m_647 m_0 m_645 m_646 (by decide) (by decide +kernel) d_La_law_492 rfl rfl hl.1 (by decide) ⟨Nat.le_of_ble_eq_true rfl, Nat.le_of_ble_eq_true rfl⟩ ⟨Nat.le_trans (Nat.add_le_add_left h156 _) hc, Nat.le_trans (Nat.add_le_add_left h157 _) hs⟩ (c_La_edge hl0 _ _ _ _ _ _ _ hq) (fun v152 w153 H locs hv hW => ?_)
          obtain ⟨i158, rfl, hq⟩ := hv
          have hc := bw_bud hc h156
          have hs := bw_bud hs h157
          refine W.eq (g2 := F0 m 495 ls [.int i158]) rfl ?_
          refine lv_istore (lv' := [(5, .int i158), (0, va_rf (some x0)), (1, va_rf x1), (2, va_rf x2), (3, va_rf x3), (4, .int x4)]) hx hb d_La_law_495 hl (by decide) (by simp [bw_cat, cat_i, cat_j]) (fun ls hl => ?_)
          refine bw_aload_n hx hb d_La_law_497 rfl (lv_at hl 3 rfl) ?_
          refine bw_aload_n hx hb d_La_law_498 rfl (lv_at hl 1 rfl) ?_
          refine lv_iload hx hb d_La_law_499 (lv_at hl 5 rfl) ?_
          refine lv_iconst (v := 1) hx hb d_La_law_501 (by decide) ?_
          refine lv_iadd hx hb d_La_law_502 ?_
          obtain ⟨h159, hq⟩ := hq
          refine va_sld hx hb hX hbl hbA hW.2.2 h159 d_La_law_503 ?_
          refine bw_aload_n hx hb d_La_law_504 rfl (lv_at hl 1 rfl) ?_
          refine lv_iload hx hb d_La_law_505 (lv_at hl 5 rfl) ?_
          refine lv_iconst (v := 2) hx hb d_La_law_507 (by decide) ?_
          refine lv_iadd hx hb d_La_law_508 ?_
          obtain ⟨h160, hq⟩ := hq
          refine va_sld hx hb hX hbl hbA hW.2.2 h160 d_La_law_509 ?_
          obtain ⟨a161, ea161, hq⟩ := hq
          obtain ⟨t162, hq⟩ := hq
          refine bw_callV (As := [.int (xs (x4 + (1 : Int32)).toNatClampNeg), .int (xs (x4 + (2 : Int32)).toNatClampNeg)]) (rest := []) C hW ci_Mo_edge m_940 m_941 m_942 d_La_law_510 ea161 t162 (by decide) rfl rfl rfl hl.1 (by decide) ⟨Nat.le_of_ble_eq_true rfl, Nat.le_of_ble_eq_true rfl⟩ ⟨Nat.le_trans (Nat.add_le_add_left (Nat.zero_le _) _) hc, Nat.le_trans (Nat.add_le_add_left (Nat.zero_le _) _) hs⟩ (c_Mo_edge hl0 _ _ _ _ hq) (fun _ _ _ _ _ _ h => h.elim) (fun v163 w164 H locs hv hW => ?_)
          obtain ⟨i169, rfl, hq⟩ := hv
          have hc := bw_bud0 hc
          have hs := bw_bud0 hs
          refine W.eq (g2 := F0 m 513 ls [.int i169]) rfl ?_
          refine lv_istore (lv' := [(6, .int i169), (5, .int i158), (0, va_rf (some x0)), (1, va_rf x1), (2, va_rf x2), (3, va_rf x3), (4, .int x4)]) hx hb d_La_law_513 hl (by decide) (by simp [bw_cat, cat_i, cat_j]) (fun ls hl => ?_)
          refine lv_goto (tgt := 811) hx hb d_La_law_515 (by decide) ?_
          exact k_La_law_811 C hX hbl hK23 _ _ _ _ _ _ _ hq _ _ _ _ _ hW (lv_sub hl [2, 3, 4, 5, 6] rfl) hc hs
        · have hq := hq.2.2.2.2.2.2.2.2.2.1 c3
          refine lv_tableIn (tgt := 518) hx hb d_La_law_39 (by rw [c3]; decide) (by rw [c3]; decide) (by rw [c3]; rfl) (by decide) ?_
          refine bw_aload_n hx hb d_La_law_518 rfl (lv_at hl 1 rfl) ?_
          refine bw_aload_n hx hb d_La_law_519 rfl (lv_at hl 0 rfl) ?_
          refine lv_iload hx hb d_La_law_520 (lv_at hl 4 rfl) ?_
          refine lv_iconst (v := 1) hx hb d_La_law_522 (by decide) ?_
          refine lv_iadd hx hb d_La_law_523 ?_
          obtain ⟨h170, hq⟩ := hq
          refine va_sld hx hb hX hbl hbA hW.2.2 h170 d_La_law_524 ?_
          refine bw_aload_n hx hb d_La_law_525 rfl (lv_at hl 0 rfl) ?_
          refine lv_iload hx hb d_La_law_526 (lv_at hl 4 rfl) ?_
          refine lv_iconst (v := 2) hx hb d_La_law_528 (by decide) ?_
          refine lv_iadd hx hb d_La_law_529 ?_
          obtain ⟨h171, hq⟩ := hq
          refine va_sld hx hb hX hbl hbA hW.2.2 h171 d_La_law_530 ?_
          refine bw_aload_n hx hb d_La_law_531 rfl (lv_at hl 3 rfl) ?_
          obtain ⟨k174, k175, h176, h177, hq⟩ := hq
          refine bw_callSW (nA := 4) (hh := [(0, 10, 13, 21), (0, 10, 17, 13), (0, 10, 21, 41)]) (As := [va_rf x1, .int (xs (x4 + (1 : Int32)).toNatClampNeg), .int (xs (x4 + (2 : Int32)).toNatClampNeg), va_rf x3]) (rest := []) C hW m_656 m_0 m_654 m_655 (by decide) (by decide +kernel) d_La_law_532 rfl rfl hl.1 (by decide) ⟨Nat.le_of_ble_eq_true rfl, Nat.le_of_ble_eq_true rfl⟩ ⟨Nat.le_trans (Nat.add_le_add_left h176 _) hc, Nat.le_trans (Nat.add_le_add_left h177 _) hs⟩ (c_La_slip hl0 _ _ _ _ _ _ _ hq) (fun v172 w173 H locs hv hW => ?_)
          obtain ⟨i178, rfl, hq⟩ := hv
          have hc := bw_bud hc h176
          have hs := bw_bud hs h177
          refine W.eq (g2 := F0 m 535 ls [.int i178]) rfl ?_
          refine lv_istore (lv' := [(5, .int i178), (0, va_rf (some x0)), (1, va_rf x1), (2, va_rf x2), (3, va_rf x3), (4, .int x4)]) hx hb d_La_law_535 hl (by decide) (by simp [bw_cat, cat_i, cat_j]) (fun ls hl => ?_)
          refine bw_aload_n hx hb d_La_law_537 rfl (lv_at hl 3 rfl) ?_
          refine bw_aload_n hx hb d_La_law_538 rfl (lv_at hl 1 rfl) ?_
          refine lv_iload hx hb d_La_law_539 (lv_at hl 5 rfl) ?_
          refine lv_iconst (v := 1) hx hb d_La_law_541 (by decide) ?_
          refine lv_iadd hx hb d_La_law_542 ?_
          obtain ⟨h179, hq⟩ := hq
          refine va_sld hx hb hX hbl hbA hW.2.2 h179 d_La_law_543 ?_
          refine bw_aload_n hx hb d_La_law_544 rfl (lv_at hl 1 rfl) ?_
          refine lv_iload hx hb d_La_law_545 (lv_at hl 5 rfl) ?_
          refine lv_iconst (v := 2) hx hb d_La_law_547 (by decide) ?_
          refine lv_iadd hx hb d_La_law_548 ?_
          obtain ⟨h180, hq⟩ := hq
          refine va_sld hx hb hX hbl hbA hW.2.2 h180 d_La_law_549 ?_
          obtain ⟨a181, ea181, hq⟩ := hq
          obtain ⟨t182, hq⟩ := hq
          refine bw_callV (As := [.int (xs (x4 + (1 : Int32)).toNatClampNeg), .int (xs (x4 + (2 : Int32)).toNatClampNeg)]) (rest := []) C hW ci_Mo_slip m_945 m_946 m_947 d_La_law_550 ea181 t182 (by decide) rfl rfl rfl hl.1 (by decide) ⟨Nat.le_of_ble_eq_true rfl, Nat.le_of_ble_eq_true rfl⟩ ⟨Nat.le_trans (Nat.add_le_add_left (Nat.zero_le _) _) hc, Nat.le_trans (Nat.add_le_add_left (Nat.zero_le _) _) hs⟩ (c_Mo_slip hl0 _ _ _ _ hq) (fun _ _ _ _ _ _ h => h.elim) (fun v183 w184 H locs hv hW => ?_)
          obtain ⟨i189, rfl, hq⟩ := hv
          have hc := bw_bud0 hc
          have hs := bw_bud0 hs
          refine W.eq (g2 := F0 m 553 ls [.int i189]) rfl ?_
          refine lv_istore (lv' := [(6, .int i189), (5, .int i178), (0, va_rf (some x0)), (1, va_rf x1), (2, va_rf x2), (3, va_rf x3), (4, .int x4)]) hx hb d_La_law_553 hl (by decide) (by simp [bw_cat, cat_i, cat_j]) (fun ls hl => ?_)
          refine lv_goto (tgt := 811) hx hb d_La_law_555 (by decide) ?_
          exact k_La_law_811 C hX hbl hK23 _ _ _ _ _ _ _ hq _ _ _ _ _ hW (lv_sub hl [2, 3, 4, 5, 6] rfl) hc hs
        · have hq := hq.2.2.2.2.2.2.2.2.2.2.1 c3
          refine lv_tableIn (tgt := 558) hx hb d_La_law_39 (by rw [c3]; decide) (by rw [c3]; decide) (by rw [c3]; rfl) (by decide) ?_
          refine bw_aload_n hx hb d_La_law_558 rfl (lv_at hl 1 rfl) ?_
          refine bw_aload_n hx hb d_La_law_559 rfl (lv_at hl 0 rfl) ?_
          refine lv_iload hx hb d_La_law_560 (lv_at hl 4 rfl) ?_
          refine lv_iconst (v := 1) hx hb d_La_law_562 (by decide) ?_
          refine lv_iadd hx hb d_La_law_563 ?_
          obtain ⟨h190, hq⟩ := hq
          refine va_sld hx hb hX hbl hbA hW.2.2 h190 d_La_law_564 ?_
          obtain ⟨k193, k194, h195, h196, hq⟩ := hq
          refine bw_callSW (nA := 2) (hh := [(0, 5, 8, 21), (0, 5, 11, 41)]) (As := [va_rf x1, .int (xs (x4 + (1 : Int32)).toNatClampNeg)]) (rest := []) C hW m_665 m_0 m_663 m_664 (by decide) (by decide +kernel) d_La_law_565 rfl rfl hl.1 (by decide) ⟨Nat.le_of_ble_eq_true rfl, Nat.le_of_ble_eq_true rfl⟩ ⟨Nat.le_trans (Nat.add_le_add_left h195 _) hc, Nat.le_trans (Nat.add_le_add_left h196 _) hs⟩ (c_La_take hl0 _ _ _ _ _ hq) (fun v191 w192 H locs hv hW => ?_)
          obtain ⟨i197, rfl, hq⟩ := hv
          have hc := bw_bud hc h195
          have hs := bw_bud hs h196
          refine W.eq (g2 := F0 m 568 ls [.int i197]) rfl ?_
          refine lv_istore (lv' := [(5, .int i197), (0, va_rf (some x0)), (1, va_rf x1), (2, va_rf x2), (3, va_rf x3), (4, .int x4)]) hx hb d_La_law_568 hl (by decide) (by simp [bw_cat, cat_i, cat_j]) (fun ls hl => ?_)
          refine bw_aload_n hx hb d_La_law_570 rfl (lv_at hl 3 rfl) ?_
          refine bw_aload_n hx hb d_La_law_571 rfl (lv_at hl 1 rfl) ?_
          refine lv_iload hx hb d_La_law_572 (lv_at hl 5 rfl) ?_
          refine lv_iconst (v := 1) hx hb d_La_law_574 (by decide) ?_
          refine lv_iadd hx hb d_La_law_575 ?_
          obtain ⟨h198, hq⟩ := hq
          refine va_sld hx hb hX hbl hbA hW.2.2 h198 d_La_law_576 ?_
          obtain ⟨a199, ea199, hq⟩ := hq
          obtain ⟨t200, hq⟩ := hq
          refine bw_callV (As := [.int (xs (x4 + (1 : Int32)).toNatClampNeg)]) (rest := []) C hW ci_Mo_take m_949 m_950 m_951 d_La_law_577 ea199 t200 (by decide) rfl rfl rfl hl.1 (by decide) ⟨Nat.le_of_ble_eq_true rfl, Nat.le_of_ble_eq_true rfl⟩ ⟨Nat.le_trans (Nat.add_le_add_left (Nat.zero_le _) _) hc, Nat.le_trans (Nat.add_le_add_left (Nat.zero_le _) _) hs⟩ (c_Mo_take hl0 _ _ _ hq) (fun _ _ _ _ _ _ h => h.elim) (fun v201 w202 H locs hv hW => ?_)
          obtain ⟨rfl, hq⟩ := hv
          have hc := bw_bud0 hc
          have hs := bw_bud0 hs
          refine W.eq (g2 := F0 m 580 ls []) rfl ?_
          refine bw_aload_n hx hb d_La_law_580 rfl (lv_at hl 3 rfl) ?_
          obtain ⟨t208, hq⟩ := hq
          refine bw_callV (As := []) (rest := []) C hW ci_Mo_thrown m_844 m_845 m_846 d_La_law_581 ea199 t208 (by decide) rfl rfl rfl hl.1 (by decide) ⟨Nat.le_of_ble_eq_true rfl, Nat.le_of_ble_eq_true rfl⟩ ⟨Nat.le_trans (Nat.add_le_add_left (Nat.zero_le _) _) hc, Nat.le_trans (Nat.add_le_add_left (Nat.zero_le _) _) hs⟩ (c_Mo_thrown hl0 _ _ hq) (fun _ _ _ _ _ _ h => h.elim) (fun v209 w210 H locs hv hW => ?_)
          obtain ⟨i215, rfl, hq⟩ := hv
          have hc := bw_bud0 hc
          have hs := bw_bud0 hs
          refine W.eq (g2 := F0 m 584 ls [.int i215]) rfl ?_
          refine lv_iload hx hb d_La_law_584 (lv_at hl 0 rfl) ?_
          refine lv_icmp_eq (tgt := 591) hx hb d_La_law_586 (by decide) (fun c216 => ?_) (fun c216 => ?_)
          · have hq := hq.1 c216
            refine lv_goto (tgt := 811) hx hb d_La_law_591 (by decide) ?_
            exact k_La_law_811 C hX hbl hK23 _ _ _ _ _ _ _ hq _ _ _ _ _ hW (lv_sub hl [1, 2, 3, 4, 5] rfl) hc hs
          · have hq := hq.2 c216
            refine lv_iconst (v := 0) hx hb d_La_law_589 (by decide) ?_
            exact hq.elim
        · have hq := hq.2.2.2.2.2.2.2.2.2.2.2.1 c3
          refine lv_tableIn (tgt := 594) hx hb d_La_law_39 (by rw [c3]; decide) (by rw [c3]; decide) (by rw [c3]; rfl) (by decide) ?_
          refine bw_aload_n hx hb d_La_law_594 rfl (lv_at hl 1 rfl) ?_
          refine bw_aload_n hx hb d_La_law_595 rfl (lv_at hl 0 rfl) ?_
          refine lv_iload hx hb d_La_law_596 (lv_at hl 4 rfl) ?_
          refine lv_iconst (v := 1) hx hb d_La_law_598 (by decide) ?_
          refine lv_iadd hx hb d_La_law_599 ?_
          obtain ⟨h217, hq⟩ := hq
          refine va_sld hx hb hX hbl hbA hW.2.2 h217 d_La_law_600 ?_
          refine bw_aload_n hx hb d_La_law_601 rfl (lv_at hl 3 rfl) ?_
          obtain ⟨k220, k221, h222, h223, hq⟩ := hq
          refine bw_callSW (nA := 3) (hh := [(0, 9, 12, 21), (0, 9, 15, 41)]) (As := [va_rf x1, .int (xs (x4 + (1 : Int32)).toNatClampNeg), va_rf x3]) (rest := []) C hW m_672 m_0 m_670 m_671 (by decide) (by decide +kernel) d_La_law_602 rfl rfl hl.1 (by decide) ⟨Nat.le_of_ble_eq_true rfl, Nat.le_of_ble_eq_true rfl⟩ ⟨Nat.le_trans (Nat.add_le_add_left h222 _) hc, Nat.le_trans (Nat.add_le_add_left h223 _) hs⟩ (c_La_clean hl0 _ _ _ _ _ _ hq) (fun v218 w219 H locs hv hW => ?_)
          obtain ⟨i224, rfl, hq⟩ := hv
          have hc := bw_bud hc h222
          have hs := bw_bud hs h223
          refine W.eq (g2 := F0 m 605 ls [.int i224]) rfl ?_
          refine lv_istore (lv' := [(5, .int i224), (0, va_rf (some x0)), (1, va_rf x1), (2, va_rf x2), (3, va_rf x3), (4, .int x4)]) hx hb d_La_law_605 hl (by decide) (by simp [bw_cat, cat_i, cat_j]) (fun ls hl => ?_)
          refine bw_aload_n hx hb d_La_law_607 rfl (lv_at hl 3 rfl) ?_
          refine bw_aload_n hx hb d_La_law_608 rfl (lv_at hl 1 rfl) ?_
          refine lv_iload hx hb d_La_law_609 (lv_at hl 5 rfl) ?_
          refine lv_iconst (v := 1) hx hb d_La_law_611 (by decide) ?_
          refine lv_iadd hx hb d_La_law_612 ?_
          obtain ⟨h225, hq⟩ := hq
          refine va_sld hx hb hX hbl hbA hW.2.2 h225 d_La_law_613 ?_
          obtain ⟨a226, ea226, hq⟩ := hq
          obtain ⟨t227, hq⟩ := hq
          refine bw_callV (As := [.int (xs (x4 + (1 : Int32)).toNatClampNeg)]) (rest := []) C hW ci_Mo_clean m_953 m_954 m_955 d_La_law_614 ea226 t227 (by decide) rfl rfl rfl hl.1 (by decide) ⟨Nat.le_of_ble_eq_true rfl, Nat.le_of_ble_eq_true rfl⟩ ⟨Nat.le_trans (Nat.add_le_add_left (Nat.zero_le _) _) hc, Nat.le_trans (Nat.add_le_add_left (Nat.zero_le _) _) hs⟩ (c_Mo_clean hl0 _ _ _ hq) (fun _ _ _ _ _ _ h => h.elim) (fun v228 w229 H locs hv hW => ?_)
          obtain ⟨i234, rfl, hq⟩ := hv
          have hc := bw_bud0 hc
          have hs := bw_bud0 hs
          refine W.eq (g2 := F0 m 617 ls [.int i234]) rfl ?_
          refine lv_istore (lv' := [(6, .int i234), (5, .int i224), (0, va_rf (some x0)), (1, va_rf x1), (2, va_rf x2), (3, va_rf x3), (4, .int x4)]) hx hb d_La_law_617 hl (by decide) (by simp [bw_cat, cat_i, cat_j]) (fun ls hl => ?_)
          refine lv_goto (tgt := 811) hx hb d_La_law_619 (by decide) ?_
          exact k_La_law_811 C hX hbl hK23 _ _ _ _ _ _ _ hq _ _ _ _ _ hW (lv_sub hl [2, 3, 4, 5, 6] rfl) hc hs
        · have hq := hq.2.2.2.2.2.2.2.2.2.2.2.2.1 c3
          refine lv_tableIn (tgt := 622) hx hb d_La_law_39 (by rw [c3]; decide) (by rw [c3]; decide) (by rw [c3]; rfl) (by decide) ?_
          refine bw_aload_n hx hb d_La_law_622 rfl (lv_at hl 1 rfl) ?_
          refine bw_aload_n hx hb d_La_law_623 rfl (lv_at hl 0 rfl) ?_
          refine lv_iload hx hb d_La_law_624 (lv_at hl 4 rfl) ?_
          refine lv_iconst (v := 1) hx hb d_La_law_626 (by decide) ?_
          refine lv_iadd hx hb d_La_law_627 ?_
          obtain ⟨h235, hq⟩ := hq
          refine va_sld hx hb hX hbl hbA hW.2.2 h235 d_La_law_628 ?_
          refine bw_aload_n hx hb d_La_law_629 rfl (lv_at hl 0 rfl) ?_
          refine lv_iload hx hb d_La_law_630 (lv_at hl 4 rfl) ?_
          refine lv_iconst (v := 2) hx hb d_La_law_632 (by decide) ?_
          refine lv_iadd hx hb d_La_law_633 ?_
          obtain ⟨h236, hq⟩ := hq
          refine va_sld hx hb hX hbl hbA hW.2.2 h236 d_La_law_634 ?_
          refine bw_aload_n hx hb d_La_law_635 rfl (lv_at hl 3 rfl) ?_
          obtain ⟨k239, k240, h241, h242, hq⟩ := hq
          refine bw_callSW (nA := 4) (hh := [(0, 10, 13, 21), (0, 10, 17, 41)]) (As := [va_rf x1, .int (xs (x4 + (1 : Int32)).toNatClampNeg), .int (xs (x4 + (2 : Int32)).toNatClampNeg), va_rf x3]) (rest := []) C hW m_680 m_0 m_678 m_679 (by decide) (by decide +kernel) d_La_law_636 rfl rfl hl.1 (by decide) ⟨Nat.le_of_ble_eq_true rfl, Nat.le_of_ble_eq_true rfl⟩ ⟨Nat.le_trans (Nat.add_le_add_left h241 _) hc, Nat.le_trans (Nat.add_le_add_left h242 _) hs⟩ (c_La_gap hl0 _ _ _ _ _ _ _ hq) (fun v237 w238 H locs hv hW => ?_)
          obtain ⟨i243, rfl, hq⟩ := hv
          have hc := bw_bud hc h241
          have hs := bw_bud hs h242
          refine W.eq (g2 := F0 m 639 ls [.int i243]) rfl ?_
          refine lv_istore (lv' := [(5, .int i243), (0, va_rf (some x0)), (1, va_rf x1), (2, va_rf x2), (3, va_rf x3), (4, .int x4)]) hx hb d_La_law_639 hl (by decide) (by simp [bw_cat, cat_i, cat_j]) (fun ls hl => ?_)
          refine bw_aload_n hx hb d_La_law_641 rfl (lv_at hl 3 rfl) ?_
          refine bw_aload_n hx hb d_La_law_642 rfl (lv_at hl 1 rfl) ?_
          refine lv_iload hx hb d_La_law_643 (lv_at hl 5 rfl) ?_
          refine lv_iconst (v := 1) hx hb d_La_law_645 (by decide) ?_
          refine lv_iadd hx hb d_La_law_646 ?_
          obtain ⟨h244, hq⟩ := hq
          refine va_sld hx hb hX hbl hbA hW.2.2 h244 d_La_law_647 ?_
          refine bw_aload_n hx hb d_La_law_648 rfl (lv_at hl 1 rfl) ?_
          refine lv_iload hx hb d_La_law_649 (lv_at hl 5 rfl) ?_
          refine lv_iconst (v := 2) hx hb d_La_law_651 (by decide) ?_
          refine lv_iadd hx hb d_La_law_652 ?_
          obtain ⟨h245, hq⟩ := hq
          refine va_sld hx hb hX hbl hbA hW.2.2 h245 d_La_law_653 ?_
          obtain ⟨a246, ea246, hq⟩ := hq
          obtain ⟨t247, hq⟩ := hq
          refine bw_callV (As := [.int (xs (x4 + (1 : Int32)).toNatClampNeg), .int (xs (x4 + (2 : Int32)).toNatClampNeg)]) (rest := []) C hW ci_Mo_gap m_957 m_958 m_959 d_La_law_654 ea246 t247 (by decide) rfl rfl rfl hl.1 (by decide) ⟨Nat.le_of_ble_eq_true rfl, Nat.le_of_ble_eq_true rfl⟩ ⟨Nat.le_trans (Nat.add_le_add_left (Nat.zero_le _) _) hc, Nat.le_trans (Nat.add_le_add_left (Nat.zero_le _) _) hs⟩ (c_Mo_gap hl0 _ _ _ _ hq) (fun _ _ _ _ _ _ h => h.elim) (fun v248 w249 H locs hv hW => ?_)
          obtain ⟨i254, rfl, hq⟩ := hv
          have hc := bw_bud0 hc
          have hs := bw_bud0 hs
          refine W.eq (g2 := F0 m 657 ls [.int i254]) rfl ?_
          refine lv_istore (lv' := [(6, .int i254), (5, .int i243), (0, va_rf (some x0)), (1, va_rf x1), (2, va_rf x2), (3, va_rf x3), (4, .int x4)]) hx hb d_La_law_657 hl (by decide) (by simp [bw_cat, cat_i, cat_j]) (fun ls hl => ?_)
          refine lv_goto (tgt := 811) hx hb d_La_law_659 (by decide) ?_
          exact k_La_law_811 C hX hbl hK23 _ _ _ _ _ _ _ hq _ _ _ _ _ hW (lv_sub hl [2, 3, 4, 5, 6] rfl) hc hs
        · have hq := hq.2.2.2.2.2.2.2.2.2.2.2.2.2.1 c3
          refine lv_tableIn (tgt := 662) hx hb d_La_law_39 (by rw [c3]; decide) (by rw [c3]; decide) (by rw [c3]; rfl) (by decide) ?_
          refine bw_aload_n hx hb d_La_law_662 rfl (lv_at hl 1 rfl) ?_
          refine bw_aload_n hx hb d_La_law_663 rfl (lv_at hl 0 rfl) ?_
          refine lv_iload hx hb d_La_law_664 (lv_at hl 4 rfl) ?_
          refine lv_iconst (v := 1) hx hb d_La_law_666 (by decide) ?_
          refine lv_iadd hx hb d_La_law_667 ?_
          obtain ⟨h255, hq⟩ := hq
          refine va_sld hx hb hX hbl hbA hW.2.2 h255 d_La_law_668 ?_
          refine bw_aload_n hx hb d_La_law_669 rfl (lv_at hl 0 rfl) ?_
          refine lv_iload hx hb d_La_law_670 (lv_at hl 4 rfl) ?_
          refine lv_iconst (v := 2) hx hb d_La_law_672 (by decide) ?_
          refine lv_iadd hx hb d_La_law_673 ?_
          obtain ⟨h256, hq⟩ := hq
          refine va_sld hx hb hX hbl hbA hW.2.2 h256 d_La_law_674 ?_
          refine bw_aload_n hx hb d_La_law_675 rfl (lv_at hl 3 rfl) ?_
          obtain ⟨k259, k260, h261, h262, hq⟩ := hq
          refine bw_callSW (nA := 4) (hh := [(0, 10, 13, 21), (0, 10, 17, 13)]) (As := [va_rf x1, .int (xs (x4 + (1 : Int32)).toNatClampNeg), .int (xs (x4 + (2 : Int32)).toNatClampNeg), va_rf x3]) (rest := []) C hW m_688 m_0 m_686 m_687 (by decide) (by decide +kernel) d_La_law_676 rfl rfl hl.1 (by decide) ⟨Nat.le_of_ble_eq_true rfl, Nat.le_of_ble_eq_true rfl⟩ ⟨Nat.le_trans (Nat.add_le_add_left h261 _) hc, Nat.le_trans (Nat.add_le_add_left h262 _) hs⟩ (c_La_told hl0 _ _ _ _ _ _ _ hq) (fun v257 w258 H locs hv hW => ?_)
          obtain ⟨i263, rfl, hq⟩ := hv
          have hc := bw_bud hc h261
          have hs := bw_bud hs h262
          refine W.eq (g2 := F0 m 679 ls [.int i263]) rfl ?_
          refine lv_istore (lv' := [(5, .int i263), (0, va_rf (some x0)), (1, va_rf x1), (2, va_rf x2), (3, va_rf x3), (4, .int x4)]) hx hb d_La_law_679 hl (by decide) (by simp [bw_cat, cat_i, cat_j]) (fun ls hl => ?_)
          refine bw_aload_n hx hb d_La_law_681 rfl (lv_at hl 3 rfl) ?_
          refine bw_aload_n hx hb d_La_law_682 rfl (lv_at hl 1 rfl) ?_
          refine lv_iload hx hb d_La_law_683 (lv_at hl 5 rfl) ?_
          refine lv_iconst (v := 1) hx hb d_La_law_685 (by decide) ?_
          refine lv_iadd hx hb d_La_law_686 ?_
          obtain ⟨h264, hq⟩ := hq
          refine va_sld hx hb hX hbl hbA hW.2.2 h264 d_La_law_687 ?_
          refine bw_aload_n hx hb d_La_law_688 rfl (lv_at hl 1 rfl) ?_
          refine lv_iload hx hb d_La_law_689 (lv_at hl 5 rfl) ?_
          refine lv_iconst (v := 2) hx hb d_La_law_691 (by decide) ?_
          refine lv_iadd hx hb d_La_law_692 ?_
          obtain ⟨h265, hq⟩ := hq
          refine va_sld hx hb hX hbl hbA hW.2.2 h265 d_La_law_693 ?_
          obtain ⟨a266, ea266, hq⟩ := hq
          obtain ⟨t267, hq⟩ := hq
          refine bw_callV (As := [.int (xs (x4 + (1 : Int32)).toNatClampNeg), .int (xs (x4 + (2 : Int32)).toNatClampNeg)]) (rest := []) C hW ci_Mo_told m_961 m_962 m_963 d_La_law_694 ea266 t267 (by decide) rfl rfl rfl hl.1 (by decide) ⟨Nat.le_of_ble_eq_true rfl, Nat.le_of_ble_eq_true rfl⟩ ⟨Nat.le_trans (Nat.add_le_add_left (Nat.zero_le _) _) hc, Nat.le_trans (Nat.add_le_add_left (Nat.zero_le _) _) hs⟩ (c_Mo_told hl0 _ _ _ _ hq) (fun _ _ _ _ _ _ h => h.elim) (fun v268 w269 H locs hv hW => ?_)
          obtain ⟨i274, rfl, hq⟩ := hv
          have hc := bw_bud0 hc
          have hs := bw_bud0 hs
          refine W.eq (g2 := F0 m 697 ls [.int i274]) rfl ?_
          refine lv_istore (lv' := [(6, .int i274), (5, .int i263), (0, va_rf (some x0)), (1, va_rf x1), (2, va_rf x2), (3, va_rf x3), (4, .int x4)]) hx hb d_La_law_697 hl (by decide) (by simp [bw_cat, cat_i, cat_j]) (fun ls hl => ?_)
          refine lv_goto (tgt := 811) hx hb d_La_law_699 (by decide) ?_
          exact k_La_law_811 C hX hbl hK23 _ _ _ _ _ _ _ hq _ _ _ _ _ hW (lv_sub hl [2, 3, 4, 5, 6] rfl) hc hs
        · have hq := hq.2.2.2.2.2.2.2.2.2.2.2.2.2.2.1 c3
          refine lv_tableIn (tgt := 702) hx hb d_La_law_39 (by rw [c3]; decide) (by rw [c3]; decide) (by rw [c3]; rfl) (by decide) ?_
          refine bw_aload_n hx hb d_La_law_702 rfl (lv_at hl 1 rfl) ?_
          refine bw_aload_n hx hb d_La_law_703 rfl (lv_at hl 0 rfl) ?_
          refine lv_iload hx hb d_La_law_704 (lv_at hl 4 rfl) ?_
          refine lv_iconst (v := 1) hx hb d_La_law_706 (by decide) ?_
          refine lv_iadd hx hb d_La_law_707 ?_
          obtain ⟨h275, hq⟩ := hq
          refine va_sld hx hb hX hbl hbA hW.2.2 h275 d_La_law_708 ?_
          refine bw_aload_n hx hb d_La_law_709 rfl (lv_at hl 0 rfl) ?_
          refine lv_iload hx hb d_La_law_710 (lv_at hl 4 rfl) ?_
          refine lv_iconst (v := 2) hx hb d_La_law_712 (by decide) ?_
          refine lv_iadd hx hb d_La_law_713 ?_
          obtain ⟨h276, hq⟩ := hq
          refine va_sld hx hb hX hbl hbA hW.2.2 h276 d_La_law_714 ?_
          refine bw_aload_n hx hb d_La_law_715 rfl (lv_at hl 3 rfl) ?_
          obtain ⟨k279, k280, h281, h282, hq⟩ := hq
          refine bw_callSW (nA := 4) (hh := [(0, 10, 13, 21), (0, 10, 17, 13)]) (As := [va_rf x1, .int (xs (x4 + (1 : Int32)).toNatClampNeg), .int (xs (x4 + (2 : Int32)).toNatClampNeg), va_rf x3]) (rest := []) C hW m_696 m_0 m_694 m_695 (by decide) (by decide +kernel) d_La_law_716 rfl rfl hl.1 (by decide) ⟨Nat.le_of_ble_eq_true rfl, Nat.le_of_ble_eq_true rfl⟩ ⟨Nat.le_trans (Nat.add_le_add_left h281 _) hc, Nat.le_trans (Nat.add_le_add_left h282 _) hs⟩ (c_La_known hl0 _ _ _ _ _ _ _ hq) (fun v277 w278 H locs hv hW => ?_)
          obtain ⟨i283, rfl, hq⟩ := hv
          have hc := bw_bud hc h281
          have hs := bw_bud hs h282
          refine W.eq (g2 := F0 m 719 ls [.int i283]) rfl ?_
          refine lv_istore (lv' := [(5, .int i283), (0, va_rf (some x0)), (1, va_rf x1), (2, va_rf x2), (3, va_rf x3), (4, .int x4)]) hx hb d_La_law_719 hl (by decide) (by simp [bw_cat, cat_i, cat_j]) (fun ls hl => ?_)
          refine bw_aload_n hx hb d_La_law_721 rfl (lv_at hl 3 rfl) ?_
          refine bw_aload_n hx hb d_La_law_722 rfl (lv_at hl 1 rfl) ?_
          refine lv_iload hx hb d_La_law_723 (lv_at hl 5 rfl) ?_
          refine lv_iconst (v := 1) hx hb d_La_law_725 (by decide) ?_
          refine lv_iadd hx hb d_La_law_726 ?_
          obtain ⟨h284, hq⟩ := hq
          refine va_sld hx hb hX hbl hbA hW.2.2 h284 d_La_law_727 ?_
          refine bw_aload_n hx hb d_La_law_728 rfl (lv_at hl 1 rfl) ?_
          refine lv_iload hx hb d_La_law_729 (lv_at hl 5 rfl) ?_
          refine lv_iconst (v := 2) hx hb d_La_law_731 (by decide) ?_
          refine lv_iadd hx hb d_La_law_732 ?_
          obtain ⟨h285, hq⟩ := hq
          refine va_sld hx hb hX hbl hbA hW.2.2 h285 d_La_law_733 ?_
          obtain ⟨a286, ea286, hq⟩ := hq
          obtain ⟨t287, hq⟩ := hq
          refine bw_callV (As := [.int (xs (x4 + (1 : Int32)).toNatClampNeg), .int (xs (x4 + (2 : Int32)).toNatClampNeg)]) (rest := []) C hW ci_Mo_known m_965 m_966 m_967 d_La_law_734 ea286 t287 (by decide) rfl rfl rfl hl.1 (by decide) ⟨Nat.le_of_ble_eq_true rfl, Nat.le_of_ble_eq_true rfl⟩ ⟨Nat.le_trans (Nat.add_le_add_left (Nat.zero_le _) _) hc, Nat.le_trans (Nat.add_le_add_left (Nat.zero_le _) _) hs⟩ (c_Mo_known hl0 _ _ _ _ hq) (fun _ _ _ _ _ _ h => h.elim) (fun v288 w289 H locs hv hW => ?_)
          obtain ⟨i294, rfl, hq⟩ := hv
          have hc := bw_bud0 hc
          have hs := bw_bud0 hs
          refine W.eq (g2 := F0 m 737 ls [.int i294]) rfl ?_
          refine lv_istore (lv' := [(6, .int i294), (5, .int i283), (0, va_rf (some x0)), (1, va_rf x1), (2, va_rf x2), (3, va_rf x3), (4, .int x4)]) hx hb d_La_law_737 hl (by decide) (by simp [bw_cat, cat_i, cat_j]) (fun ls hl => ?_)
          refine lv_goto (tgt := 811) hx hb d_La_law_739 (by decide) ?_
          exact k_La_law_811 C hX hbl hK23 _ _ _ _ _ _ _ hq _ _ _ _ _ hW (lv_sub hl [2, 3, 4, 5, 6] rfl) hc hs
        · have hq := hq.2.2.2.2.2.2.2.2.2.2.2.2.2.2.2.1 c3
          refine lv_tableIn (tgt := 742) hx hb d_La_law_39 (by rw [c3]; decide) (by rw [c3]; decide) (by rw [c3]; rfl) (by decide) ?_
          refine bw_aload_n hx hb d_La_law_742 rfl (lv_at hl 1 rfl) ?_
          refine bw_aload_n hx hb d_La_law_743 rfl (lv_at hl 0 rfl) ?_
          refine lv_iload hx hb d_La_law_744 (lv_at hl 4 rfl) ?_
          refine lv_iconst (v := 1) hx hb d_La_law_746 (by decide) ?_
          refine lv_iadd hx hb d_La_law_747 ?_
          obtain ⟨h295, hq⟩ := hq
          refine va_sld hx hb hX hbl hbA hW.2.2 h295 d_La_law_748 ?_
          refine bw_aload_n hx hb d_La_law_749 rfl (lv_at hl 3 rfl) ?_
          obtain ⟨k298, k299, h300, h301, hq⟩ := hq
          refine bw_callSW (nA := 3) (hh := [(0, 9, 12, 21)]) (As := [va_rf x1, .int (xs (x4 + (1 : Int32)).toNatClampNeg), va_rf x3]) (rest := []) C hW m_708 m_0 m_706 m_707 (by decide) (by decide +kernel) d_La_law_750 rfl rfl hl.1 (by decide) ⟨Nat.le_of_ble_eq_true rfl, Nat.le_of_ble_eq_true rfl⟩ ⟨Nat.le_trans (Nat.add_le_add_left h300 _) hc, Nat.le_trans (Nat.add_le_add_left h301 _) hs⟩ (c_La_order hl0 _ _ _ _ _ _ hq) (fun v296 w297 H locs hv hW => ?_)
          obtain ⟨i302, rfl, hq⟩ := hv
          have hc := bw_bud hc h300
          have hs := bw_bud hs h301
          refine W.eq (g2 := F0 m 753 ls [.int i302]) rfl ?_
          refine lv_istore (lv' := [(5, .int i302), (0, va_rf (some x0)), (1, va_rf x1), (2, va_rf x2), (3, va_rf x3), (4, .int x4)]) hx hb d_La_law_753 hl (by decide) (by simp [bw_cat, cat_i, cat_j]) (fun ls hl => ?_)
          refine bw_aload_n hx hb d_La_law_755 rfl (lv_at hl 3 rfl) ?_
          refine bw_aload_n hx hb d_La_law_756 rfl (lv_at hl 1 rfl) ?_
          refine lv_iload hx hb d_La_law_757 (lv_at hl 5 rfl) ?_
          refine lv_iconst (v := 1) hx hb d_La_law_759 (by decide) ?_
          refine lv_iadd hx hb d_La_law_760 ?_
          obtain ⟨h303, hq⟩ := hq
          refine va_sld hx hb hX hbl hbA hW.2.2 h303 d_La_law_761 ?_
          obtain ⟨a304, ea304, hq⟩ := hq
          obtain ⟨t305, hq⟩ := hq
          refine bw_callV (As := [.int (xs (x4 + (1 : Int32)).toNatClampNeg)]) (rest := []) C hW ci_Mo_order m_969 m_970 m_971 d_La_law_762 ea304 t305 (by decide) rfl rfl rfl hl.1 (by decide) ⟨Nat.le_of_ble_eq_true rfl, Nat.le_of_ble_eq_true rfl⟩ ⟨Nat.le_trans (Nat.add_le_add_left (Nat.zero_le _) _) hc, Nat.le_trans (Nat.add_le_add_left (Nat.zero_le _) _) hs⟩ (c_Mo_order hl0 _ _ _ hq) (fun _ _ _ _ _ _ h => h.elim) (fun v306 w307 H locs hv hW => ?_)
          obtain ⟨i312, rfl, hq⟩ := hv
          have hc := bw_bud0 hc
          have hs := bw_bud0 hs
          refine W.eq (g2 := F0 m 765 ls [.int i312]) rfl ?_
          refine lv_istore (lv' := [(6, .int i312), (5, .int i302), (0, va_rf (some x0)), (1, va_rf x1), (2, va_rf x2), (3, va_rf x3), (4, .int x4)]) hx hb d_La_law_765 hl (by decide) (by simp [bw_cat, cat_i, cat_j]) (fun ls hl => ?_)
          refine lv_goto (tgt := 811) hx hb d_La_law_767 (by decide) ?_
          exact k_La_law_811 C hX hbl hK23 _ _ _ _ _ _ _ hq _ _ _ _ _ hW (lv_sub hl [2, 3, 4, 5, 6] rfl) hc hs
        · have hq := hq.2.2.2.2.2.2.2.2.2.2.2.2.2.2.2.2.1 c3
          refine lv_tableIn (tgt := 770) hx hb d_La_law_39 (by rw [c3]; decide) (by rw [c3]; decide) (by rw [c3]; rfl) (by decide) ?_
          refine bw_aload_n hx hb d_La_law_770 rfl (lv_at hl 1 rfl) ?_
          refine bw_aload_n hx hb d_La_law_771 rfl (lv_at hl 3 rfl) ?_
          obtain ⟨k315, k316, h317, h318, hq⟩ := hq
          refine bw_callSW (nA := 2) (hh := [(0, 8, 11, 75)]) (As := [va_rf x1, va_rf x3]) (rest := []) C hW m_716 m_0 m_714 m_715 (by decide) (by decide +kernel) d_La_law_772 rfl rfl hl.1 (by decide) ⟨Nat.le_of_ble_eq_true rfl, Nat.le_of_ble_eq_true rfl⟩ ⟨Nat.le_trans (Nat.add_le_add_left h317 _) hc, Nat.le_trans (Nat.add_le_add_left h318 _) hs⟩ (c_La_mean hl0 _ _ _ _ _ hq) (fun v313 w314 H locs hv hW => ?_)
          obtain ⟨i319, rfl, hq⟩ := hv
          have hc := bw_bud hc h317
          have hs := bw_bud hs h318
          refine W.eq (g2 := F0 m 775 ls [.int i319]) rfl ?_
          refine lv_istore (lv' := [(5, .int i319), (0, va_rf (some x0)), (1, va_rf x1), (2, va_rf x2), (3, va_rf x3), (4, .int x4)]) hx hb d_La_law_775 hl (by decide) (by simp [bw_cat, cat_i, cat_j]) (fun ls hl => ?_)
          refine bw_aload_n hx hb d_La_law_777 rfl (lv_at hl 3 rfl) ?_
          obtain ⟨a320, ea320, hq⟩ := hq
          obtain ⟨t321, hq⟩ := hq
          refine bw_callV (As := []) (rest := []) C hW ci_Mo_mean m_973 m_974 m_975 d_La_law_778 ea320 t321 (by decide) rfl rfl rfl hl.1 (by decide) ⟨Nat.le_of_ble_eq_true rfl, Nat.le_of_ble_eq_true rfl⟩ ⟨Nat.le_trans (Nat.add_le_add_left (Nat.zero_le _) _) hc, Nat.le_trans (Nat.add_le_add_left (Nat.zero_le _) _) hs⟩ (c_Mo_mean hl0 _ _ hq) (fun _ _ _ _ _ _ h => h.elim) (fun v322 w323 H locs hv hW => ?_)
          obtain ⟨i328, rfl, hq⟩ := hv
          have hc := bw_bud0 hc
          have hs := bw_bud0 hs
          refine W.eq (g2 := F0 m 781 ls [.int i328]) rfl ?_
          refine lv_istore (lv' := [(6, .int i328), (5, .int i319), (0, va_rf (some x0)), (1, va_rf x1), (2, va_rf x2), (3, va_rf x3), (4, .int x4)]) hx hb d_La_law_781 hl (by decide) (by simp [bw_cat, cat_i, cat_j]) (fun ls hl => ?_)
          refine lv_goto (tgt := 811) hx hb d_La_law_783 (by decide) ?_
          exact k_La_law_811 C hX hbl hK23 _ _ _ _ _ _ _ hq _ _ _ _ _ hW (lv_sub hl [2, 3, 4, 5, 6] rfl) hc hs
        · have hq := hq.2.2.2.2.2.2.2.2.2.2.2.2.2.2.2.2.2.1 c3
          refine lv_tableIn (tgt := 786) hx hb d_La_law_39 (by rw [c3]; decide) (by rw [c3]; decide) (by rw [c3]; rfl) (by decide) ?_
          refine bw_aload_n hx hb d_La_law_786 rfl (lv_at hl 1 rfl) ?_
          refine bw_aload_n hx hb d_La_law_787 rfl (lv_at hl 0 rfl) ?_
          refine lv_iload hx hb d_La_law_788 (lv_at hl 4 rfl) ?_
          refine lv_iconst (v := 1) hx hb d_La_law_790 (by decide) ?_
          refine lv_iadd hx hb d_La_law_791 ?_
          obtain ⟨h329, hq⟩ := hq
          refine va_sld hx hb hX hbl hbA hW.2.2 h329 d_La_law_792 ?_
          obtain ⟨a330, ea330, hq⟩ := hq
          obtain ⟨t331, hq⟩ := hq
          refine bw_callV (As := [.int (xs (x4 + (1 : Int32)).toNatClampNeg)]) (rest := []) C hW ci_Br_count m_87 m_88 m_89 d_La_law_793 ea330 t331 (by decide) rfl rfl rfl hl.1 (by decide) ⟨Nat.le_of_ble_eq_true rfl, Nat.le_of_ble_eq_true rfl⟩ ⟨Nat.le_trans (Nat.add_le_add_left (Nat.zero_le _) _) hc, Nat.le_trans (Nat.add_le_add_left (Nat.zero_le _) _) hs⟩ (c_Br_count hl0 _ _ _ hq) (fun _ _ _ _ _ _ h => h.elim) (fun v332 w333 H locs hv hW => ?_)
          obtain ⟨i338, rfl, hq⟩ := hv
          have hc := bw_bud0 hc
          have hs := bw_bud0 hs
          refine W.eq (g2 := F0 m 796 ls [.int i338]) rfl ?_
          refine lv_pop hx hb d_La_law_796 rfl ?_
          refine bw_aload_n hx hb d_La_law_797 rfl (lv_at hl 2 rfl) ?_
          refine bw_aload_n hx hb d_La_law_798 rfl (lv_at hl 0 rfl) ?_
          refine lv_iload hx hb d_La_law_799 (lv_at hl 4 rfl) ?_
          refine lv_iconst (v := 1) hx hb d_La_law_801 (by decide) ?_
          refine lv_iadd hx hb d_La_law_802 ?_
          obtain ⟨h339, hq⟩ := hq
          refine va_sld hx hb hX hbl hbA hW.2.2 h339 d_La_law_803 ?_
          obtain ⟨a340, ea340, hq⟩ := hq
          obtain ⟨t341, hq⟩ := hq
          refine bw_callV (As := [.int (xs (x4 + (1 : Int32)).toNatClampNeg)]) (rest := []) C hW ci_Mo_count m_977 m_978 m_979 d_La_law_804 ea340 t341 (by decide) rfl rfl rfl hl.1 (by decide) ⟨Nat.le_of_ble_eq_true rfl, Nat.le_of_ble_eq_true rfl⟩ ⟨Nat.le_trans (Nat.add_le_add_left (Nat.zero_le _) _) hc, Nat.le_trans (Nat.add_le_add_left (Nat.zero_le _) _) hs⟩ (c_Mo_count hl0 _ _ _ hq) (fun _ _ _ _ _ _ h => h.elim) (fun v342 w343 H locs hv hW => ?_)
          obtain ⟨i348, rfl, hq⟩ := hv
          have hc := bw_bud0 hc
          have hs := bw_bud0 hs
          refine W.eq (g2 := F0 m 807 ls [.int i348]) rfl ?_
          refine lv_pop hx hb d_La_law_807 rfl ?_
          refine lv_goto (tgt := 811) hx hb d_La_law_808 (by decide) ?_
          exact k_La_law_811 C hX hbl hK23 _ _ _ _ _ _ _ hq _ _ _ _ _ hW (lv_sub hl [0, 1, 2, 3, 4] rfl) hc hs
def wp_La_law (e0 mi : Nat) (w : Wd) (nc ns : Nat) (L : Nat) (xs : Nat → Int32) : Prop :=
  1 ≤ nc ∧ 9 ≤ ns ∧ ∀ q1 : Nat, q1 ∉ wL w → ∀ w5 : Wd, w5 = bw_new w q1 5 0 → (∃ k9 k10 : Nat, k9 ≤ (nc - 1) ∧ k10 ≤ (ns - 9) ∧ wp_Br_init e0 mi q1 w5 k9 k10 (fun w8 => 1 ≤ ((nc - 1) - k9) ∧ 32 ≤ ((ns - 9) - k10) ∧ ∀ q14 : Nat, q14 ∉ wL w8 → ∀ w18 : Wd, w18 = bw_new w8 q14 6 0 → (∃ k22 k23 : Nat, k22 ≤ (((nc - 1) - k9) - 1) ∧ k23 ≤ (((ns - 9) - k10) - 32) ∧ wp_Mo_init e0 mi q14 w18 k22 k23 (fun w21 => ¬ (1 : Int32) < 0 ∧ (1 : Int32).toNatClampNeg * 8 ≤ 536870912 ∧ 1 ≤ ((((nc - 1) - k9) - 1) - k22) ∧ (1 : Int32).toNatClampNeg ≤ ((((ns - 9) - k10) - 32) - k23) ∧ ∀ q27 : Nat, q27 ∉ wL w21 → ∀ w33 : Wd, w33 = bw_new w21 q27 102 (1 : Int32).toNatClampNeg → (∃ n35 : Nat, wb_La_law_23 e0 mi L xs n35 (some q1) (some q14) (some q27) (0 : Int32) w33 (((((nc - 1) - k9) - 1) - k22) - 1) (((((ns - 9) - k10) - 32) - k23) - (1 : Int32).toNatClampNeg))))))
set_option maxHeartbeats 4000000 in
set_option maxRecDepth 100000 in
theorem k_La_law_0 {p : Program} {l : Launch} {e : Env} {s : State} {m : MethodId} {below : List Frame} {meth : Method} {c : Code} {D : va_G} {AC : Nat → ClassId} {e0 mi : Nat} {x0 L : Nat} {xs : Nat → Int32} (C : Cx p l s m #[Value.ref x0] meth c D AC e0 mi (fun q : Nat => s.heap.size ≤ q) n_La_law b_La_law 7 (some .boolean)) (hX : va_X x0 L xs s s.heap) (hbl : x0 < s.heap.size) (w : Wd) (nc ns : Nat) (hq : wp_La_law e0 mi  w nc ns L xs) : ∀ (H : Heap) (locs : List Loc) (cells slots : Nat) (ls : Array Slot), HW D cls8 FTc AC (fun q : Nat => s.heap.size ≤ q) s.heap H locs w → lv_has ls 7 [(0, va_rf (some x0))] → cells + nc ≤ 601024 → slots + ns ≤ 7293034 → W p l e room_1 s m #[Value.ref x0] below meth c H locs cells slots (lw_Z below #[Value.ref x0] s) (F0 m 0 ls []) := by
  obtain ⟨hl0, hx, hb, hr, ht, hown, hlocks, hnm, hml, hex, hK, hA, hZ, hV⟩ := id C
  have hbA : ¬ (fun q : Nat => s.heap.size ≤ q) x0 := Nat.not_le.mpr hbl
  intro H locs cells slots ls hW hl hc hs
  unfold wp_La_law at hq
  obtain ⟨h2, h3, hq⟩ := hq
  refine bw_mk (ci := 5) hx hb ht in_Br y_Br yk_Br hown (ht _ m_25) (ht _ m_26) (ht _ m_1) hK hW hA (by decide) (by rfl) df_Br (Nat.le_trans (Nat.add_le_add_left h2 _) hc) (Nat.le_trans (Nat.add_le_add_left h3 _) hs) d_La_law_0 (fun q1 H n4 hW => ?_)
  obtain ⟨w5, ew5⟩ : ∃ z : Wd, z = bw_new w q1 5 0 := ⟨_, rfl⟩
  rw [← ew5] at hW
  have hq := hq q1 n4 w5 ew5
  have hc := bw_bud hc h2
  have hs := bw_bud hs h3
  have t6 : bw_is w5 q1 5 := by rw [ew5]; exact bw_is_self _ _ _ _
  refine lv_dup hx hb d_La_law_3 (bw_cat _) ?_
  obtain ⟨k9, k10, h11, h12, hq⟩ := hq
  refine bw_callI (As := []) (rest := [va_rf (some q1)]) C hW ci_Br_init rfl m_27 m_28 d_La_law_4 rfl rfl hl.1 (by simp [bw_cat, cat_i, cat_j]) ⟨Nat.le_of_ble_eq_true rfl, Nat.le_of_ble_eq_true rfl⟩ ⟨Nat.le_trans (Nat.add_le_add_left h11 _) hc, Nat.le_trans (Nat.add_le_add_left h12 _) hs⟩ (c_Br_init hl0 _ _ _ _ hq) (fun v7 w8 H locs hv hW => ?_)
  obtain ⟨rfl, hq⟩ := hv
  have hc := bw_bud hc h11
  have hs := bw_bud hs h12
  refine W.eq (g2 := F0 m 7 ls [va_rf (some q1)]) rfl ?_
  refine bw_astore_n (i := 1) (lv' := [(1, va_rf (some q1)), (0, va_rf (some x0))]) hx hb d_La_law_7 rfl hl (by decide) (by simp [bw_cat, cat_i, cat_j]) (fun ls hl => ?_)
  obtain ⟨h15, h16, hq⟩ := hq
  refine bw_mk (ci := 6) hx hb ht in_Mo y_Mo yk_Mo hown (ht _ m_738) (ht _ m_739) (ht _ m_5) hK hW hA (by decide) (by rfl) df_Mo (Nat.le_trans (Nat.add_le_add_left h15 _) hc) (Nat.le_trans (Nat.add_le_add_left h16 _) hs) d_La_law_8 (fun q14 H n17 hW => ?_)
  obtain ⟨w18, ew18⟩ : ∃ z : Wd, z = bw_new w8 q14 6 0 := ⟨_, rfl⟩
  rw [← ew18] at hW
  have hq := hq q14 n17 w18 ew18
  have hc := bw_bud hc h15
  have hs := bw_bud hs h16
  have t19 : bw_is w18 q14 6 := by rw [ew18]; exact bw_is_self _ _ _ _
  refine lv_dup hx hb d_La_law_11 (bw_cat _) ?_
  obtain ⟨k22, k23, h24, h25, hq⟩ := hq
  refine bw_callI (As := []) (rest := [va_rf (some q14)]) C hW ci_Mo_init rfl m_740 m_741 d_La_law_12 rfl rfl hl.1 (by simp [bw_cat, cat_i, cat_j]) ⟨Nat.le_of_ble_eq_true rfl, Nat.le_of_ble_eq_true rfl⟩ ⟨Nat.le_trans (Nat.add_le_add_left h24 _) hc, Nat.le_trans (Nat.add_le_add_left h25 _) hs⟩ (c_Mo_init hl0 _ _ _ _ hq) (fun v20 w21 H locs hv hW => ?_)
  obtain ⟨rfl, hq⟩ := hv
  have hc := bw_bud hc h24
  have hs := bw_bud hs h25
  refine W.eq (g2 := F0 m 15 ls [va_rf (some q14)]) rfl ?_
  refine bw_astore_n (i := 2) (lv' := [(2, va_rf (some q14)), (1, va_rf (some q1)), (0, va_rf (some x0))]) hx hb d_La_law_15 rfl hl (by decide) (by simp [bw_cat, cat_i, cat_j]) (fun ls hl => ?_)
  refine lv_iconst (v := 1) hx hb d_La_law_16 (by decide) ?_
  obtain ⟨h28, h31, h29, h30, hq⟩ := hq
  refine bw_newJ C hW m_843 h28 h31 (Nat.le_trans (Nat.add_le_add_left h29 _) hc) (Nat.le_trans (Nat.add_le_add_left h30 _) hs) d_La_law_17 (fun q27 H n32 hW => ?_)
  obtain ⟨w33, ew33⟩ : ∃ z : Wd, z = bw_new w21 q27 102 (1 : Int32).toNatClampNeg := ⟨_, rfl⟩
  rw [← ew33] at hW
  have hq := hq q27 n32 w33 ew33
  have hc := bw_bud hc h29
  have hs := bw_bud hs h30
  have t34 : bw_is w33 q27 102 := by rw [ew33]; exact bw_is_self _ _ _ _
  refine bw_astore_n (i := 3) (lv' := [(3, va_rf (some q27)), (2, va_rf (some q14)), (1, va_rf (some q1)), (0, va_rf (some x0))]) hx hb d_La_law_19 rfl hl (by decide) (by simp [bw_cat, cat_i, cat_j]) (fun ls hl => ?_)
  refine lv_iconst (v := 0) hx hb d_La_law_20 (by decide) ?_
  refine lv_istore (lv' := [(4, .int (0 : Int32)), (3, va_rf (some q27)), (2, va_rf (some q14)), (1, va_rf (some q1)), (0, va_rf (some x0))]) hx hb d_La_law_21 hl (by decide) (by simp [bw_cat, cat_i, cat_j]) (fun ls hl => ?_)
  obtain ⟨n35, hq⟩ := hq
  exact k_La_law_23 C hX hbl  n35 _ _ _ _ _ _ _ hq _ _ _ _ _ hW (lv_sub hl [4, 3, 2, 1, 0] rfl) hc hs

