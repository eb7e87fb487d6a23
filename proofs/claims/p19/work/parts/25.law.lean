/-! the law, printed by wip/gen/runl.py -/
def wb_La_law_800 (e0 mi : Nat) (K23 : Option Nat → Option Nat → Option Nat → Int32 → Wd → Nat → Nat → Prop) (L : Nat) (xs : Nat → Int32) (x1 : Option Nat) (x2 : Option Nat) (x3 : Option Nat) (x4 : Int32) (w : Wd) (nc ns : Nat) : Prop :=
  ∀ i1 : Int32, i1 = x4 + 5 → (K23 x1 x2 x3 i1 w nc ns)
set_option maxHeartbeats 4000000 in
set_option maxRecDepth 100000 in
theorem k_La_law_800 {p : Program} {l : Launch} {e : Env} {s : State} {m : MethodId} {below : List Frame} {meth : Method} {c : Code} {D : va_G} {AC : Nat → ClassId} {e0 mi : Nat} {x0 L : Nat} {xs : Nat → Int32} {K23 : Option Nat → Option Nat → Option Nat → Int32 → Wd → Nat → Nat → Prop} (C : Cx p l s m #[Value.ref x0] meth c D AC e0 mi (fun q : Nat => s.heap.size ≤ q) n_La_law b_La_law 7 (some .boolean)) (hX : va_X x0 L xs s s.heap) (hbl : x0 < s.heap.size) (hK23 : ∀ (x1 : Option Nat) (x2 : Option Nat) (x3 : Option Nat) (x4 : Int32) (w : Wd) (nc ns : Nat), K23 x1 x2 x3 x4 w nc ns → ∀ (H : Heap) (locs : List Loc) (cells slots : Nat) (ls : Array Slot), HW D cls8 FTc AC (fun q : Nat => s.heap.size ≤ q) s.heap H locs w → lv_has ls 7 [(0, va_rf (some x0)), (1, va_rf x1), (2, va_rf x2), (3, va_rf x3), (4, .int x4)] → cells + nc ≤ 601024 → slots + ns ≤ 7293034 → W p l e room_1 s m #[Value.ref x0] below meth c H locs cells slots (lw_Z below #[Value.ref x0] s) (F0 m 23 ls [])) (x1 : Option Nat) (x2 : Option Nat) (x3 : Option Nat) (x4 : Int32) (w : Wd) (nc ns : Nat) (hq : wb_La_law_800 e0 mi K23 L xs x1 x2 x3 x4 w nc ns) : ∀ (H : Heap) (locs : List Loc) (cells slots : Nat) (ls : Array Slot), HW D cls8 FTc AC (fun q : Nat => s.heap.size ≤ q) s.heap H locs w → lv_has ls 7 [(0, va_rf (some x0)), (1, va_rf x1), (2, va_rf x2), (3, va_rf x3), (4, .int x4)] → cells + nc ≤ 601024 → slots + ns ≤ 7293034 → W p l e room_1 s m #[Value.ref x0] below meth c H locs cells slots (lw_Z below #[Value.ref x0] s) (F0 m 800 ls []) := by
  obtain ⟨hl0, hx, hb, hr, ht, hown, hlocks, hnm, hml, hex, hK, hA, hZ, hV⟩ := id C
  have hbA : ¬ (fun q : Nat => s.heap.size ≤ q) x0 := Nat.not_le.mpr hbl
  intro H locs cells slots ls hW hl hc hs
  unfold wb_La_law_800 at hq
  obtain ⟨i1, ei1⟩ : ∃ y : Int32, y = x4 + 5 := ⟨_, rfl⟩
  have hq := hq i1 ei1
  refine lv_iinc (v := i1) (lv' := [(4, .int i1), (0, va_rf (some x0)), (1, va_rf x1), (2, va_rf x2), (3, va_rf x3)]) hx hb d_La_law_800 hl (k := 4) rfl (by rw [ei1]; rfl) (by decide) (by simp [bw_cat, cat_i, cat_j]) (fun ls hl => ?_)
  refine lv_goto (tgt := 23) hx hb d_La_law_803 (by decide) ?_
  exact hK23 _ _ _ _ _ _ _ hq _ _ _ _ _ hW (lv_sub hl [1, 2, 3, 4, 0] rfl) hc hs
def wb_La_law_287 (e0 mi : Nat) (K23 : Option Nat → Option Nat → Option Nat → Int32 → Wd → Nat → Nat → Prop) (L : Nat) (xs : Nat → Int32) (x1 : Option Nat) (x2 : Option Nat) (x3 : Option Nat) (x4 : Int32) (x5 : Int32) (z0 : Option Nat) (z1 : Int32) (z2 : Int32) (z3 : Int32) (w : Wd) (nc ns : Nat) : Prop :=
  ∃ a1 : Nat, z0 = some a1 ∧ (bw_is w a1 6 ∧ (wp_Mo_run e0 mi a1 z1 z2 z3 w (fun w4 => wb_La_law_800 e0 mi K23 L xs x1 x2 x3 x4 w4 nc ns)))
set_option maxHeartbeats 4000000 in
set_option maxRecDepth 100000 in
theorem k_La_law_287 {p : Program} {l : Launch} {e : Env} {s : State} {m : MethodId} {below : List Frame} {meth : Method} {c : Code} {D : va_G} {AC : Nat → ClassId} {e0 mi : Nat} {x0 L : Nat} {xs : Nat → Int32} {K23 : Option Nat → Option Nat → Option Nat → Int32 → Wd → Nat → Nat → Prop} (C : Cx p l s m #[Value.ref x0] meth c D AC e0 mi (fun q : Nat => s.heap.size ≤ q) n_La_law b_La_law 7 (some .boolean)) (hX : va_X x0 L xs s s.heap) (hbl : x0 < s.heap.size) (hK23 : ∀ (x1 : Option Nat) (x2 : Option Nat) (x3 : Option Nat) (x4 : Int32) (w : Wd) (nc ns : Nat), K23 x1 x2 x3 x4 w nc ns → ∀ (H : Heap) (locs : List Loc) (cells slots : Nat) (ls : Array Slot), HW D cls8 FTc AC (fun q : Nat => s.heap.size ≤ q) s.heap H locs w → lv_has ls 7 [(0, va_rf (some x0)), (1, va_rf x1), (2, va_rf x2), (3, va_rf x3), (4, .int x4)] → cells + nc ≤ 601024 → slots + ns ≤ 7293034 → W p l e room_1 s m #[Value.ref x0] below meth c H locs cells slots (lw_Z below #[Value.ref x0] s) (F0 m 23 ls [])) (x1 : Option Nat) (x2 : Option Nat) (x3 : Option Nat) (x4 : Int32) (x5 : Int32) (z0 : Option Nat) (z1 : Int32) (z2 : Int32) (z3 : Int32) (w : Wd) (nc ns : Nat) (hq : wb_La_law_287 e0 mi K23 L xs x1 x2 x3 x4 x5 z0 z1 z2 z3 w nc ns) : ∀ (H : Heap) (locs : List Loc) (cells slots : Nat) (ls : Array Slot), HW D cls8 FTc AC (fun q : Nat => s.heap.size ≤ q) s.heap H locs w → lv_has ls 7 [(0, va_rf (some x0)), (1, va_rf x1), (2, va_rf x2), (3, va_rf x3), (4, .int x4), (5, .int x5)] → cells + nc ≤ 601024 → slots + ns ≤ 7293034 → W p l e room_1 s m #[Value.ref x0] below meth c H locs cells slots (lw_Z below #[Value.ref x0] s) (F0 m 287 ls [.int z3, .int z2, .int z1, va_rf z0]) := by
  obtain ⟨hl0, hx, hb, hr, ht, hown, hlocks, hnm, hml, hex, hK, hA, hZ, hV⟩ := id C
  have hbA : ¬ (fun q : Nat => s.heap.size ≤ q) x0 := Nat.not_le.mpr hbl
  intro H locs cells slots ls hW hl hc hs
  unfold wb_La_law_287 at hq
  obtain ⟨a1, ea1, hq⟩ := hq
  obtain ⟨t2, hq⟩ := hq
  refine bw_callV (As := [.int z1, .int z2, .int z3]) (rest := []) C hW ci_Mo_run m_859 m_860 m_861 d_La_law_287 ea1 t2 (by decide) rfl rfl rfl hl.1 (by decide) ⟨Nat.le_of_ble_eq_true rfl, Nat.le_of_ble_eq_true rfl⟩ ⟨Nat.le_trans (Nat.add_le_add_left (Nat.zero_le _) _) hc, Nat.le_trans (Nat.add_le_add_left (Nat.zero_le _) _) hs⟩ (c_Mo_run hl0 _ _ _ _ _ hq) (fun _ _ _ _ _ _ h => h.elim) (fun v3 w4 H locs hv hW => ?_)
  obtain ⟨rfl, hq⟩ := hv
  have hc := bw_bud0 hc
  have hs := bw_bud0 hs
  refine W.eq (g2 := F0 m 290 ls []) rfl ?_
  refine lv_goto (tgt := 800) hx hb d_La_law_290 (by decide) ?_
  exact k_La_law_800 C hX hbl hK23 _ _ _ _ _ _ _ hq _ _ _ _ _ hW (lv_sub hl [0, 1, 2, 3, 4] rfl) hc hs
def wb_La_law_255 (e0 mi : Nat) (K23 : Option Nat → Option Nat → Option Nat → Int32 → Wd → Nat → Nat → Prop) (L : Nat) (xs : Nat → Int32) (x1 : Option Nat) (x2 : Option Nat) (x3 : Option Nat) (x4 : Int32) (z0 : Option Nat) (z1 : Int32) (z2 : Int32) (z3 : Int32) (w : Wd) (nc ns : Nat) : Prop :=
  ∃ k3 k4 : Nat, k3 ≤ nc ∧ k4 ≤ ns ∧ wp_La_run e0 mi z0 z1 z2 z3 w k3 k4 (fun i7 w2 => vp_in (x4 + (1 : Int32)) L ∧ (vp_in (x4 + (2 : Int32)) L ∧ (vp_in (x4 + (3 : Int32)) L ∧ (((xs (x4 + (3 : Int32)).toNatClampNeg) = 0 → (wb_La_law_287 e0 mi K23 L xs x1 x2 x3 x4 i7 x2 (xs (x4 + (1 : Int32)).toNatClampNeg) (xs (x4 + (2 : Int32)).toNatClampNeg) (0 : Int32) w2 (nc - k3) (ns - k4))) ∧ (¬ (xs (x4 + (3 : Int32)).toNatClampNeg) = 0 → (wb_La_law_287 e0 mi K23 L xs x1 x2 x3 x4 i7 x2 (xs (x4 + (1 : Int32)).toNatClampNeg) (xs (x4 + (2 : Int32)).toNatClampNeg) (1 : Int32) w2 (nc - k3) (ns - k4)))))))
set_option maxHeartbeats 4000000 in
set_option maxRecDepth 100000 in
theorem k_La_law_255 {p : Program} {l : Launch} {e : Env} {s : State} {m : MethodId} {below : List Frame} {meth : Method} {c : Code} {D : va_G} {AC : Nat → ClassId} {e0 mi : Nat} {x0 L : Nat} {xs : Nat → Int32} {K23 : Option Nat → Option Nat → Option Nat → Int32 → Wd → Nat → Nat → Prop} (C : Cx p l s m #[Value.ref x0] meth c D AC e0 mi (fun q : Nat => s.heap.size ≤ q) n_La_law b_La_law 7 (some .boolean)) (hX : va_X x0 L xs s s.heap) (hbl : x0 < s.heap.size) (hK23 : ∀ (x1 : Option Nat) (x2 : Option Nat) (x3 : Option Nat) (x4 : Int32) (w : Wd) (nc ns : Nat), K23 x1 x2 x3 x4 w nc ns → ∀ (H : Heap) (locs : List Loc) (cells slots : Nat) (ls : Array Slot), HW D cls8 FTc AC (fun q : Nat => s.heap.size ≤ q) s.heap H locs w → lv_has ls 7 [(0, va_rf (some x0)), (1, va_rf x1), (2, va_rf x2), (3, va_rf x3), (4, .int x4)] → cells + nc ≤ 601024 → slots + ns ≤ 7293034 → W p l e room_1 s m #[Value.ref x0] below meth c H locs cells slots (lw_Z below #[Value.ref x0] s) (F0 m 23 ls [])) (x1 : Option Nat) (x2 : Option Nat) (x3 : Option Nat) (x4 : Int32) (z0 : Option Nat) (z1 : Int32) (z2 : Int32) (z3 : Int32) (w : Wd) (nc ns : Nat) (hq : wb_La_law_255 e0 mi K23 L xs x1 x2 x3 x4 z0 z1 z2 z3 w nc ns) : ∀ (H : Heap) (locs : List Loc) (cells slots : Nat) (ls : Array Slot), HW D cls8 FTc AC (fun q : Nat => s.heap.size ≤ q) s.heap H locs w → lv_has ls 7 [(0, va_rf (some x0)), (1, va_rf x1), (2, va_rf x2), (3, va_rf x3), (4, .int x4)] → cells + nc ≤ 601024 → slots + ns ≤ 7293034 → W p l e room_1 s m #[Value.ref x0] below meth c H locs cells slots (lw_Z below #[Value.ref x0] s) (F0 m 255 ls [.int z3, .int z2, .int z1, va_rf z0]) := by
  obtain ⟨hl0, hx, hb, hr, ht, hown, hlocks, hnm, hml, hex, hK, hA, hZ, hV⟩ := id C
  have hbA : ¬ (fun q : Nat => s.heap.size ≤ q) x0 := Nat.not_le.mpr hbl
  intro H locs cells slots ls hW hl hc hs
  unfold wb_La_law_255 at hq
  obtain ⟨k3, k4, h5, h6, hq⟩ := hq
  refine bw_callSW (nA := 4) (hh := [(0, 7, 10, 21), (0, 7, 14, 13)]) (As := [va_rf z0, .int z1, .int z2, .int z3]) (rest := []) C hW m_377 m_0 m_375 m_376 (by decide) (by decide +kernel) d_La_law_255 rfl rfl hl.1 (by decide) ⟨Nat.le_of_ble_eq_true rfl, Nat.le_of_ble_eq_true rfl⟩ ⟨Nat.le_trans (Nat.add_le_add_left h5 _) hc, Nat.le_trans (Nat.add_le_add_left h6 _) hs⟩ (c_La_run hl0 _ _ _ _ _ _ _ hq) (fun v1 w2 H locs hv hW => ?_)
  obtain ⟨i7, rfl, hq⟩ := hv
  have hc := bw_bud hc h5
  have hs := bw_bud hs h6
  refine W.eq (g2 := F0 m 258 ls [.int i7]) rfl ?_
  refine lv_istore (lv' := [(5, .int i7), (0, va_rf (some x0)), (1, va_rf x1), (2, va_rf x2), (3, va_rf x3), (4, .int x4)]) hx hb d_La_law_258 hl (by decide) (by simp [bw_cat, cat_i, cat_j]) (fun ls hl => ?_)
  refine bw_aload_n hx hb d_La_law_260 rfl (lv_at hl 3 rfl) ?_
  refine bw_aload_n hx hb d_La_law_261 rfl (lv_at hl 1 rfl) ?_
  refine lv_iload hx hb d_La_law_262 (lv_at hl 5 rfl) ?_
  refine lv_iconst (v := 1) hx hb d_La_law_264 (by decide) ?_
  refine lv_iadd hx hb d_La_law_265 ?_
  obtain ⟨h8, hq⟩ := hq
  refine va_sld hx hb hX hbl hbA hW.2.2 h8 d_La_law_266 ?_
  refine bw_aload_n hx hb d_La_law_267 rfl (lv_at hl 1 rfl) ?_
  refine lv_iload hx hb d_La_law_268 (lv_at hl 5 rfl) ?_
  refine lv_iconst (v := 2) hx hb d_La_law_270 (by decide) ?_
  refine lv_iadd hx hb d_La_law_271 ?_
  obtain ⟨h9, hq⟩ := hq
  refine va_sld hx hb hX hbl hbA hW.2.2 h9 d_La_law_272 ?_
  refine bw_aload_n hx hb d_La_law_273 rfl (lv_at hl 1 rfl) ?_
  refine lv_iload hx hb d_La_law_274 (lv_at hl 5 rfl) ?_
  refine lv_iconst (v := 3) hx hb d_La_law_276 (by decide) ?_
  refine lv_iadd hx hb d_La_law_277 ?_
  obtain ⟨h10, hq⟩ := hq
  refine va_sld hx hb hX hbl hbA hW.2.2 h10 d_La_law_278 ?_
  refine lv_if_eq (tgt := 286) hx hb d_La_law_279 (by decide) (fun c11 => ?_) (fun c11 => ?_)
  · have hq := hq.1 c11
    refine lv_iconst (v := 0) hx hb d_La_law_286 (by decide) ?_
    exact k_La_law_287 C hX hbl hK23 _ _ _ _ _ _ _ _ _ _ _ _ hq _ _ _ _ _ hW (lv_sub hl [1, 2, 3, 4, 5, 0] rfl) hc hs
  · have hq := hq.2 c11
    refine lv_iconst (v := 1) hx hb d_La_law_282 (by decide) ?_
    refine lv_goto (tgt := 287) hx hb d_La_law_283 (by decide) ?_
    exact k_La_law_287 C hX hbl hK23 _ _ _ _ _ _ _ _ _ _ _ _ hq _ _ _ _ _ hW (lv_sub hl [1, 2, 3, 4, 5, 0] rfl) hc hs
def wb_La_law_23 (e0 mi : Nat) (L : Nat) (xs : Nat → Int32) : Nat → Option Nat → Option Nat → Option Nat → Int32 → Wd → Nat → Nat → Prop
  | 0, _, _, _, _, _, _, _ => False
  | n + 1, x1, x2, x3, x4, w, nc, ns => (((nI L) - (5 : Int32)) < x4 → (True)) ∧ (¬ ((nI L) - (5 : Int32)) < x4 → (vp_in x4 L ∧ ((((xs x4.toNatClampNeg) &&& (31 : Int32)) = 0 → (vp_in (x4 + (1 : Int32)) L ∧ (vp_in (x4 + (2 : Int32)) L ∧ (∃ k8 k9 : Nat, k8 ≤ nc ∧ k9 ≤ ns ∧ wp_La_belt e0 mi x1 (xs (x4 + (1 : Int32)).toNatClampNeg) (xs (x4 + (2 : Int32)).toNatClampNeg) x3 w k8 k9 (fun i12 w7 => vp_in (x4 + (1 : Int32)) L ∧ (vp_in (x4 + (2 : Int32)) L ∧ (∃ a15 : Nat, x2 = some a15 ∧ (bw_is w7 a15 6 ∧ (wp_Mo_belt e0 mi a15 (xs (x4 + (1 : Int32)).toNatClampNeg) (xs (x4 + (2 : Int32)).toNatClampNeg) w7 (fun i23 w18 => wb_La_law_800 e0 mi (wb_La_law_23 e0 mi L xs n) L xs x1 x2 x3 x4 w18 (nc - k8) (ns - k9))))))))))) ∧ (((xs x4.toNatClampNeg) &&& (31 : Int32)) = 1 → (vp_in (x4 + (1 : Int32)) L ∧ (vp_in (x4 + (2 : Int32)) L ∧ (vp_in (x4 + (3 : Int32)) L ∧ (vp_in (x4 + (4 : Int32)) L ∧ (∃ k30 k31 : Nat, k30 ≤ nc ∧ k31 ≤ ns ∧ wp_La_join e0 mi x1 (xs (x4 + (1 : Int32)).toNatClampNeg) (xs (x4 + (2 : Int32)).toNatClampNeg) (xs (x4 + (3 : Int32)).toNatClampNeg) (xs (x4 + (4 : Int32)).toNatClampNeg) x3 w k30 k31 (fun i34 w29 => vp_in (x4 + (1 : Int32)) L ∧ (vp_in (x4 + (2 : Int32)) L ∧ (vp_in (x4 + (3 : Int32)) L ∧ (vp_in (x4 + (4 : Int32)) L ∧ (∃ a39 : Nat, x2 = some a39 ∧ (bw_is w29 a39 6 ∧ (wp_Mo_join e0 mi a39 (xs (x4 + (1 : Int32)).toNatClampNeg) (xs (x4 + (2 : Int32)).toNatClampNeg) (xs (x4 + (3 : Int32)).toNatClampNeg) (xs (x4 + (4 : Int32)).toNatClampNeg) w29 (fun i47 w42 => wb_La_law_800 e0 mi (wb_La_law_23 e0 mi L xs n) L xs x1 x2 x3 x4 w42 (nc - k30) (ns - k31))))))))))))))) ∧ (((xs x4.toNatClampNeg) &&& (31 : Int32)) = 2 → (vp_in (x4 + (1 : Int32)) L ∧ (vp_in (x4 + (2 : Int32)) L ∧ (vp_in (x4 + (3 : Int32)) L ∧ (((xs (x4 + (3 : Int32)).toNatClampNeg) = 0 → (wb_La_law_255 e0 mi (wb_La_law_23 e0 mi L xs n) L xs x1 x2 x3 x4 x1 (xs (x4 + (1 : Int32)).toNatClampNeg) (xs (x4 + (2 : Int32)).toNatClampNeg) (0 : Int32) w nc ns)) ∧ (¬ (xs (x4 + (3 : Int32)).toNatClampNeg) = 0 → (wb_La_law_255 e0 mi (wb_La_law_23 e0 mi L xs n) L xs x1 x2 x3 x4 x1 (xs (x4 + (1 : Int32)).toNatClampNeg) (xs (x4 + (2 : Int32)).toNatClampNeg) (1 : Int32) w nc ns))))))) ∧ (((xs x4.toNatClampNeg) &&& (31 : Int32)) = 3 → (vp_in (x4 + (1 : Int32)) L ∧ (∃ k55 k56 : Nat, k55 ≤ nc ∧ k56 ≤ ns ∧ wp_La_gaps e0 mi x1 (xs (x4 + (1 : Int32)).toNatClampNeg) w k55 k56 (fun i59 w54 => vp_in (x4 + (1 : Int32)) L ∧ (∃ a61 : Nat, x2 = some a61 ∧ (bw_is w54 a61 6 ∧ (wp_Mo_gaps e0 mi a61 (xs (x4 + (1 : Int32)).toNatClampNeg) w54 (fun w64 => wb_La_law_800 e0 mi (wb_La_law_23 e0 mi L xs n) L xs x1 x2 x3 x4 w64 (nc - k55) (ns - k56))))))))) ∧ (((xs x4.toNatClampNeg) &&& (31 : Int32)) = 4 → (vp_in (x4 + (1 : Int32)) L ∧ (vp_in (x4 + (2 : Int32)) L ∧ (vp_in (x4 + (3 : Int32)) L ∧ (∃ k75 k76 : Nat, k75 ≤ nc ∧ k76 ≤ ns ∧ wp_La_scanner e0 mi x1 (xs (x4 + (1 : Int32)).toNatClampNeg) (xs (x4 + (2 : Int32)).toNatClampNeg) (xs (x4 + (3 : Int32)).toNatClampNeg) x3 w k75 k76 (fun i79 w74 => vp_in (x4 + (1 : Int32)) L ∧ (vp_in (x4 + (2 : Int32)) L ∧ (vp_in (x4 + (3 : Int32)) L ∧ (∃ a83 : Nat, x2 = some a83 ∧ (bw_is w74 a83 6 ∧ (wp_Mo_scanner e0 mi a83 (xs (x4 + (1 : Int32)).toNatClampNeg) (xs (x4 + (2 : Int32)).toNatClampNeg) (xs (x4 + (3 : Int32)).toNatClampNeg) w74 (fun i91 w86 => wb_La_law_800 e0 mi (wb_La_law_23 e0 mi L xs n) L xs x1 x2 x3 x4 w86 (nc - k75) (ns - k76))))))))))))) ∧ (((xs x4.toNatClampNeg) &&& (31 : Int32)) = 5 → (vp_in (x4 + (1 : Int32)) L ∧ (vp_in (x4 + (2 : Int32)) L ∧ (∃ k96 k97 : Nat, k96 ≤ nc ∧ k97 ≤ ns ∧ wp_La_item e0 mi x1 (xs (x4 + (1 : Int32)).toNatClampNeg) (xs (x4 + (2 : Int32)).toNatClampNeg) x3 w k96 k97 (fun i100 w95 => vp_in (x4 + (1 : Int32)) L ∧ (vp_in (x4 + (2 : Int32)) L ∧ (∃ a103 : Nat, x2 = some a103 ∧ (bw_is w95 a103 6 ∧ (wp_Mo_item e0 mi a103 (xs (x4 + (1 : Int32)).toNatClampNeg) (xs (x4 + (2 : Int32)).toNatClampNeg) w95 (fun i111 w106 => wb_La_law_800 e0 mi (wb_La_law_23 e0 mi L xs n) L xs x1 x2 x3 x4 w106 (nc - k96) (ns - k97))))))))))) ∧ (((xs x4.toNatClampNeg) &&& (31 : Int32)) = 6 → (vp_in (x4 + (1 : Int32)) L ∧ (vp_in (x4 + (2 : Int32)) L ∧ (∃ k116 k117 : Nat, k116 ≤ nc ∧ k117 ≤ ns ∧ wp_La_divert e0 mi x1 (xs (x4 + (1 : Int32)).toNatClampNeg) (xs (x4 + (2 : Int32)).toNatClampNeg) x3 w k116 k117 (fun i120 w115 => vp_in (x4 + (1 : Int32)) L ∧ (vp_in (x4 + (2 : Int32)) L ∧ (∃ a123 : Nat, x2 = some a123 ∧ (bw_is w115 a123 6 ∧ (wp_Mo_divert e0 mi a123 (xs (x4 + (1 : Int32)).toNatClampNeg) (xs (x4 + (2 : Int32)).toNatClampNeg) w115 (fun i131 w126 => wb_La_law_800 e0 mi (wb_La_law_23 e0 mi L xs n) L xs x1 x2 x3 x4 w126 (nc - k116) (ns - k117))))))))))) ∧ (((xs x4.toNatClampNeg) &&& (31 : Int32)) = 7 → (vp_in (x4 + (1 : Int32)) L ∧ (∃ k135 k136 : Nat, k135 ≤ nc ∧ k136 ≤ ns ∧ wp_La_step e0 mi x1 (xs (x4 + (1 : Int32)).toNatClampNeg) x3 w k135 k136 (fun i139 w134 => vp_in (x4 + (1 : Int32)) L ∧ (∃ a141 : Nat, x2 = some a141 ∧ (bw_is w134 a141 6 ∧ (wp_Mo_step e0 mi a141 (xs (x4 + (1 : Int32)).toNatClampNeg) w134 (fun i149 w144 => wb_La_law_800 e0 mi (wb_La_law_23 e0 mi L xs n) L xs x1 x2 x3 x4 w144 (nc - k135) (ns - k136))))))))) ∧ (((xs x4.toNatClampNeg) &&& (31 : Int32)) = 8 → (vp_in (x4 + (1 : Int32)) L ∧ (vp_in (x4 + (2 : Int32)) L ∧ (∃ k154 k155 : Nat, k154 ≤ nc ∧ k155 ≤ ns ∧ wp_La_edge e0 mi x1 (xs (x4 + (1 : Int32)).toNatClampNeg) (xs (x4 + (2 : Int32)).toNatClampNeg) x3 w k154 k155 (fun i158 w153 => vp_in (x4 + (1 : Int32)) L ∧ (vp_in (x4 + (2 : Int32)) L ∧ (∃ a161 : Nat, x2 = some a161 ∧ (bw_is w153 a161 6 ∧ (wp_Mo_edge e0 mi a161 (xs (x4 + (1 : Int32)).toNatClampNeg) (xs (x4 + (2 : Int32)).toNatClampNeg) w153 (fun i169 w164 => wb_La_law_800 e0 mi (wb_La_law_23 e0 mi L xs n) L xs x1 x2 x3 x4 w164 (nc - k154) (ns - k155))))))))))) ∧ (((xs x4.toNatClampNeg) &&& (31 : Int32)) = 9 → (vp_in (x4 + (1 : Int32)) L ∧ (vp_in (x4 + (2 : Int32)) L ∧ (∃ k174 k175 : Nat, k174 ≤ nc ∧ k175 ≤ ns ∧ wp_La_slip e0 mi x1 (xs (x4 + (1 : Int32)).toNatClampNeg) (xs (x4 + (2 : Int32)).toNatClampNeg) x3 w k174 k175 (fun i178 w173 => vp_in (x4 + (1 : Int32)) L ∧ (vp_in (x4 + (2 : Int32)) L ∧ (∃ a181 : Nat, x2 = some a181 ∧ (bw_is w173 a181 6 ∧ (wp_Mo_slip e0 mi a181 (xs (x4 + (1 : Int32)).toNatClampNeg) (xs (x4 + (2 : Int32)).toNatClampNeg) w173 (fun i189 w184 => wb_La_law_800 e0 mi (wb_La_law_23 e0 mi L xs n) L xs x1 x2 x3 x4 w184 (nc - k174) (ns - k175))))))))))) ∧ (((xs x4.toNatClampNeg) &&& (31 : Int32)) = 10 → (vp_in (x4 + (1 : Int32)) L ∧ (∃ k193 k194 : Nat, k193 ≤ nc ∧ k194 ≤ ns ∧ wp_La_take e0 mi x1 (xs (x4 + (1 : Int32)).toNatClampNeg) w k193 k194 (fun i197 w192 => vp_in (x4 + (1 : Int32)) L ∧ (∃ a199 : Nat, x2 = some a199 ∧ (bw_is w192 a199 6 ∧ (wp_Mo_take e0 mi a199 (xs (x4 + (1 : Int32)).toNatClampNeg) w192 (fun w202 => wb_La_law_800 e0 mi (wb_La_law_23 e0 mi L xs n) L xs x1 x2 x3 x4 w202 (nc - k193) (ns - k194))))))))) ∧ (((xs x4.toNatClampNeg) &&& (31 : Int32)) = 11 → (vp_in (x4 + (1 : Int32)) L ∧ (∃ k211 k212 : Nat, k211 ≤ nc ∧ k212 ≤ ns ∧ wp_La_clean e0 mi x1 (xs (x4 + (1 : Int32)).toNatClampNeg) x3 w k211 k212 (fun i215 w210 => vp_in (x4 + (1 : Int32)) L ∧ (∃ a217 : Nat, x2 = some a217 ∧ (bw_is w210 a217 6 ∧ (wp_Mo_clean e0 mi a217 (xs (x4 + (1 : Int32)).toNatClampNeg) w210 (fun i225 w220 => wb_La_law_800 e0 mi (wb_La_law_23 e0 mi L xs n) L xs x1 x2 x3 x4 w220 (nc - k211) (ns - k212))))))))) ∧ (((xs x4.toNatClampNeg) &&& (31 : Int32)) = 12 → (vp_in (x4 + (1 : Int32)) L ∧ (vp_in (x4 + (2 : Int32)) L ∧ (∃ k230 k231 : Nat, k230 ≤ nc ∧ k231 ≤ ns ∧ wp_La_gap e0 mi x1 (xs (x4 + (1 : Int32)).toNatClampNeg) (xs (x4 + (2 : Int32)).toNatClampNeg) x3 w k230 k231 (fun i234 w229 => vp_in (x4 + (1 : Int32)) L ∧ (vp_in (x4 + (2 : Int32)) L ∧ (∃ a237 : Nat, x2 = some a237 ∧ (bw_is w229 a237 6 ∧ (wp_Mo_gap e0 mi a237 (xs (x4 + (1 : Int32)).toNatClampNeg) (xs (x4 + (2 : Int32)).toNatClampNeg) w229 (fun i245 w240 => wb_La_law_800 e0 mi (wb_La_law_23 e0 mi L xs n) L xs x1 x2 x3 x4 w240 (nc - k230) (ns - k231))))))))))) ∧ (((xs x4.toNatClampNeg) &&& (31 : Int32)) = 13 → (vp_in (x4 + (1 : Int32)) L ∧ (vp_in (x4 + (2 : Int32)) L ∧ (∃ k250 k251 : Nat, k250 ≤ nc ∧ k251 ≤ ns ∧ wp_La_told e0 mi x1 (xs (x4 + (1 : Int32)).toNatClampNeg) (xs (x4 + (2 : Int32)).toNatClampNeg) x3 w k250 k251 (fun i254 w249 => vp_in (x4 + (1 : Int32)) L ∧ (vp_in (x4 + (2 : Int32)) L ∧ (∃ a257 : Nat, x2 = some a257 ∧ (bw_is w249 a257 6 ∧ (wp_Mo_told e0 mi a257 (xs (x4 + (1 : Int32)).toNatClampNeg) (xs (x4 + (2 : Int32)).toNatClampNeg) w249 (fun i265 w260 => wb_La_law_800 e0 mi (wb_La_law_23 e0 mi L xs n) L xs x1 x2 x3 x4 w260 (nc - k250) (ns - k251))))))))))) ∧ (((xs x4.toNatClampNeg) &&& (31 : Int32)) = 14 → (vp_in (x4 + (1 : Int32)) L ∧ (vp_in (x4 + (2 : Int32)) L ∧ (∃ k270 k271 : Nat, k270 ≤ nc ∧ k271 ≤ ns ∧ wp_La_known e0 mi x1 (xs (x4 + (1 : Int32)).toNatClampNeg) (xs (x4 + (2 : Int32)).toNatClampNeg) x3 w k270 k271 (fun i274 w269 => vp_in (x4 + (1 : Int32)) L ∧ (vp_in (x4 + (2 : Int32)) L ∧ (∃ a277 : Nat, x2 = some a277 ∧ (bw_is w269 a277 6 ∧ (wp_Mo_known e0 mi a277 (xs (x4 + (1 : Int32)).toNatClampNeg) (xs (x4 + (2 : Int32)).toNatClampNeg) w269 (fun i285 w280 => wb_La_law_800 e0 mi (wb_La_law_23 e0 mi L xs n) L xs x1 x2 x3 x4 w280 (nc - k270) (ns - k271))))))))))) ∧ (((xs x4.toNatClampNeg) &&& (31 : Int32)) = 15 → (vp_in (x4 + (1 : Int32)) L ∧ (∃ k289 k290 : Nat, k289 ≤ nc ∧ k290 ≤ ns ∧ wp_La_order e0 mi x1 (xs (x4 + (1 : Int32)).toNatClampNeg) x3 w k289 k290 (fun i293 w288 => vp_in (x4 + (1 : Int32)) L ∧ (∃ a295 : Nat, x2 = some a295 ∧ (bw_is w288 a295 6 ∧ (wp_Mo_order e0 mi a295 (xs (x4 + (1 : Int32)).toNatClampNeg) w288 (fun i303 w298 => wb_La_law_800 e0 mi (wb_La_law_23 e0 mi L xs n) L xs x1 x2 x3 x4 w298 (nc - k289) (ns - k290))))))))) ∧ (((xs x4.toNatClampNeg) &&& (31 : Int32)) = 16 → (∃ k306 k307 : Nat, k306 ≤ nc ∧ k307 ≤ ns ∧ wp_La_mean e0 mi x1 x3 w k306 k307 (fun i310 w305 => ∃ a311 : Nat, x2 = some a311 ∧ (bw_is w305 a311 6 ∧ (wp_Mo_mean e0 mi a311 w305 (fun i319 w314 => wb_La_law_800 e0 mi (wb_La_law_23 e0 mi L xs n) L xs x1 x2 x3 x4 w314 (nc - k306) (ns - k307))))))) ∧ (((xs x4.toNatClampNeg) &&& (31 : Int32)) = 17 → (vp_in (x4 + (1 : Int32)) L ∧ (∃ a321 : Nat, x1 = some a321 ∧ (bw_is w a321 5 ∧ (wp_Br_count e0 mi a321 (xs (x4 + (1 : Int32)).toNatClampNeg) w (fun i329 w324 => vp_in (x4 + (1 : Int32)) L ∧ (∃ a331 : Nat, x2 = some a331 ∧ (bw_is w324 a331 6 ∧ (wp_Mo_count e0 mi a331 (xs (x4 + (1 : Int32)).toNatClampNeg) w324 (fun i339 w334 => (i329 = i339 → (wb_La_law_800 e0 mi (wb_La_law_23 e0 mi L xs n) L xs x1 x2 x3 x4 w334 nc ns)) ∧ (¬ i329 = i339 → (False)))))))))))) ∧ ((((xs x4.toNatClampNeg) &&& (31 : Int32)).toInt < 0 ∨ 17 < ((xs x4.toNatClampNeg) &&& (31 : Int32)).toInt) → (wb_La_law_800 e0 mi (wb_La_law_23 e0 mi L xs n) L xs x1 x2 x3 x4 w nc ns)))))
set_option maxHeartbeats 4000000 in
set_option maxRecDepth 100000 in
theorem k_La_law_23 {p : Program} {l : Launch} {e : Env} {s : State} {m : MethodId} {below : List Frame} {meth : Method} {c : Code} {D : va_G} {AC : Nat → ClassId} {e0 mi : Nat} {x0 L : Nat} {xs : Nat → Int32} (C : Cx p l s m #[Value.ref x0] meth c D AC e0 mi (fun q : Nat => s.heap.size ≤ q) n_La_law b_La_law 7 (some .boolean)) (hX : va_X x0 L xs s s.heap) (hbl : x0 < s.heap.size) : ∀ (n : Nat) (x1 : Option Nat) (x2 : Option Nat) (x3 : Option Nat) (x4 : Int32) (w : Wd) (nc ns : Nat), wb_La_law_23 e0 mi L xs n x1 x2 x3 x4 w nc ns → ∀ (H : Heap) (locs : List Loc) (cells slots : Nat) (ls : Array Slot), HW D cls8 FTc AC (fun q : Nat => s.heap.size ≤ q) s.heap H locs w → lv_has ls 7 [(0, va_rf (some x0)), (1, va_rf x1), (2, va_rf x2), (3, va_rf x3), (4, .int x4)] → cells + nc ≤ 601024 → slots + ns ≤ 7293034 → W p l e room_1 s m #[Value.ref x0] below meth c H locs cells slots (lw_Z below #[Value.ref x0] s) (F0 m 23 ls []) := by
  obtain ⟨hl0, hx, hb, hr, ht, hown, hlocks, hnm, hml, hex, hK, hA, hZ, hV⟩ := id C
  have hbA : ¬ (fun q : Nat => s.heap.size ≤ q) x0 := Nat.not_le.mpr hbl
  intro n
  induction n with
  | zero =>
    intro x1 x2 x3 x4 w nc ns hq
    exact hq.elim
  | succ n ih =>
    intro x1 x2 x3 x4 w nc ns hq H locs cells slots ls hW hl hc hs
    have hK23 := ih
    unfold wb_La_law_23 at hq
    refine lv_iload hx hb d_La_law_23 (lv_at hl 4 rfl) ?_
    refine bw_aload_n hx hb d_La_law_25 rfl (lv_at hl 0 rfl) ?_
    refine va_slen hx hb hX hbl hbA hW.2.2 d_La_law_26 ?_
    refine lv_iconst (v := 5) hx hb d_La_law_27 (by decide) ?_
    refine lv_isub hx hb d_La_law_28 ?_
    refine lv_icmp_gt (tgt := 806) hx hb d_La_law_29 (by decide) (fun c1 => ?_) (fun c1 => ?_)
    · have hq := hq.1 c1
      refine lv_iconst (v := 1) hx hb d_La_law_806 (by decide) ?_
      refine va_forget (fun q h => hW.2.2.2.2 q h) ?_
      exact W.widen (Nat.le_trans (Nat.le_add_right _ _) hc) (Nat.le_trans (Nat.le_add_right _ _) hs) (lw_ret hx hb hr hlocks d_La_law_807)
    · have hq := hq.2 c1
      refine bw_aload_n hx hb d_La_law_32 rfl (lv_at hl 0 rfl) ?_
      refine lv_iload hx hb d_La_law_33 (lv_at hl 4 rfl) ?_
      obtain ⟨h2, hq⟩ := hq
      refine va_sld hx hb hX hbl hbA hW.2.2 h2 d_La_law_35 ?_
      refine lv_bipush (v := 31) hx hb d_La_law_36 (by decide) ?_
      refine lv_iand hx hb d_La_law_38 ?_
      by_cases c3 : ((xs x4.toNatClampNeg) &&& (31 : Int32)).toInt < 0 ∨ 17 < ((xs x4.toNatClampNeg) &&& (31 : Int32)).toInt
      · have hq := hq.2.2.2.2.2.2.2.2.2.2.2.2.2.2.2.2.2.2 c3
        refine lv_tableOut (tgt := 800) hx hb d_La_law_39 c3 (by decide) ?_
        exact k_La_law_800 C hX hbl hK23 _ _ _ _ _ _ _ hq _ _ _ _ _ hW (lv_sub hl [0, 1, 2, 3, 4] rfl) hc hs
      · have c32 : ((xs x4.toNatClampNeg) &&& (31 : Int32)) = 0 ∨ ((xs x4.toNatClampNeg) &&& (31 : Int32)) = 1 ∨ ((xs x4.toNatClampNeg) &&& (31 : Int32)) = 2 ∨ ((xs x4.toNatClampNeg) &&& (31 : Int32)) = 3 ∨ ((xs x4.toNatClampNeg) &&& (31 : Int32)) = 4 ∨ ((xs x4.toNatClampNeg) &&& (31 : Int32)) = 5 ∨ ((xs x4.toNatClampNeg) &&& (31 : Int32)) = 6 ∨ ((xs x4.toNatClampNeg) &&& (31 : Int32)) = 7 ∨ ((xs x4.toNatClampNeg) &&& (31 : Int32)) = 8 ∨ ((xs x4.toNatClampNeg) &&& (31 : Int32)) = 9 ∨ ((xs x4.toNatClampNeg) &&& (31 : Int32)) = 10 ∨ ((xs x4.toNatClampNeg) &&& (31 : Int32)) = 11 ∨ ((xs x4.toNatClampNeg) &&& (31 : Int32)) = 12 ∨ ((xs x4.toNatClampNeg) &&& (31 : Int32)) = 13 ∨ ((xs x4.toNatClampNeg) &&& (31 : Int32)) = 14 ∨ ((xs x4.toNatClampNeg) &&& (31 : Int32)) = 15 ∨ ((xs x4.toNatClampNeg) &&& (31 : Int32)) = 16 ∨ ((xs x4.toNatClampNeg) &&& (31 : Int32)) = 17 := bw_sw18 c3
        rcases c32 with c3 | c3 | c3 | c3 | c3 | c3 | c3 | c3 | c3 | c3 | c3 | c3 | c3 | c3 | c3 | c3 | c3 | c3
        · have hq := hq.1 c3
          refine lv_tableIn (tgt := 124) hx hb d_La_law_39 (by rw [c3]; decide) (by rw [c3]; decide) (by rw [c3]; rfl) (by decide) ?_
          refine bw_aload_n hx hb d_La_law_124 rfl (lv_at hl 1 rfl) ?_
          refine bw_aload_n hx hb d_La_law_125 rfl (lv_at hl 0 rfl) ?_
          refine lv_iload hx hb d_La_law_126 (lv_at hl 4 rfl) ?_
          refine lv_iconst (v := 1) hx hb d_La_law_128 (by decide) ?_
          refine lv_iadd hx hb d_La_law_129 ?_
          obtain ⟨h4, hq⟩ := hq
          refine va_sld hx hb hX hbl hbA hW.2.2 h4 d_La_law_130 ?_
          refine bw_aload_n hx hb d_La_law_131 rfl (lv_at hl 0 rfl) ?_
          refine lv_iload hx hb d_La_law_132 (lv_at hl 4 rfl) ?_
          refine lv_iconst (v := 2) hx hb d_La_law_134 (by decide) ?_
          refine lv_iadd hx hb d_La_law_135 ?_
          obtain ⟨h5, hq⟩ := hq
          refine va_sld hx hb hX hbl hbA hW.2.2 h5 d_La_law_136 ?_
          refine bw_aload_n hx hb d_La_law_137 rfl (lv_at hl 3 rfl) ?_
          obtain ⟨k8, k9, h10, h11, hq⟩ := hq
          refine bw_callSW (nA := 4) (hh := [(0, 10, 13, 13), (0, 10, 17, 15)]) (As := [va_rf x1, .int (xs (x4 + (1 : Int32)).toNatClampNeg), .int (xs (x4 + (2 : Int32)).toNatClampNeg), va_rf x3]) (rest := []) C hW m_116 m_0 m_114 m_115 (by decide) (by decide +kernel) d_La_law_138 rfl rfl hl.1 (by decide) ⟨Nat.le_of_ble_eq_true rfl, Nat.le_of_ble_eq_true rfl⟩ ⟨Nat.le_trans (Nat.add_le_add_left h10 _) hc, Nat.le_trans (Nat.add_le_add_left h11 _) hs⟩ (c_La_belt hl0 _ _ _ _ _ _ _ hq) (fun v6 w7 H locs hv hW => ?_)
          obtain ⟨i12, rfl, hq⟩ := hv
          have hc := bw_bud hc h10
          have hs := bw_bud hs h11
          refine W.eq (g2 := F0 m 141 ls [.int i12]) rfl ?_
          refine lv_istore (lv' := [(5, .int i12), (0, va_rf (some x0)), (1, va_rf x1), (2, va_rf x2), (3, va_rf x3), (4, .int x4)]) hx hb d_La_law_141 hl (by decide) (by simp [bw_cat, cat_i, cat_j]) (fun ls hl => ?_)
          refine bw_aload_n hx hb d_La_law_143 rfl (lv_at hl 3 rfl) ?_
          refine bw_aload_n hx hb d_La_law_144 rfl (lv_at hl 1 rfl) ?_
          refine lv_iload hx hb d_La_law_145 (lv_at hl 5 rfl) ?_
          refine lv_iconst (v := 1) hx hb d_La_law_147 (by decide) ?_
          refine lv_iadd hx hb d_La_law_148 ?_
          obtain ⟨h13, hq⟩ := hq
          refine va_sld hx hb hX hbl hbA hW.2.2 h13 d_La_law_149 ?_
          refine bw_aload_n hx hb d_La_law_150 rfl (lv_at hl 1 rfl) ?_
          refine lv_iload hx hb d_La_law_151 (lv_at hl 5 rfl) ?_
          refine lv_iconst (v := 2) hx hb d_La_law_153 (by decide) ?_
          refine lv_iadd hx hb d_La_law_154 ?_
          obtain ⟨h14, hq⟩ := hq
          refine va_sld hx hb hX hbl hbA hW.2.2 h14 d_La_law_155 ?_
          obtain ⟨a15, ea15, hq⟩ := hq
          obtain ⟨t16, hq⟩ := hq
          refine bw_callV (As := [.int (xs (x4 + (1 : Int32)).toNatClampNeg), .int (xs (x4 + (2 : Int32)).toNatClampNeg)]) (rest := []) C hW ci_Mo_belt m_844 m_845 m_846 d_La_law_156 ea15 t16 (by decide) rfl rfl rfl hl.1 (by decide) ⟨Nat.le_of_ble_eq_true rfl, Nat.le_of_ble_eq_true rfl⟩ ⟨Nat.le_trans (Nat.add_le_add_left (Nat.zero_le _) _) hc, Nat.le_trans (Nat.add_le_add_left (Nat.zero_le _) _) hs⟩ (c_Mo_belt hl0 _ _ _ _ hq) (fun _ _ _ _ _ _ h => h.elim) (fun v17 w18 H locs hv hW => ?_)
          obtain ⟨i23, rfl, hq⟩ := hv
          have hc := bw_bud0 hc
          have hs := bw_bud0 hs
          refine W.eq (g2 := F0 m 159 ls [.int i23]) rfl ?_
          refine lv_istore (lv' := [(6, .int i23), (5, .int i12), (0, va_rf (some x0)), (1, va_rf x1), (2, va_rf x2), (3, va_rf x3), (4, .int x4)]) hx hb d_La_law_159 hl (by decide) (by simp [bw_cat, cat_i, cat_j]) (fun ls hl => ?_)
          refine lv_goto (tgt := 800) hx hb d_La_law_161 (by decide) ?_
          exact k_La_law_800 C hX hbl hK23 _ _ _ _ _ _ _ hq _ _ _ _ _ hW (lv_sub hl [2, 3, 4, 5, 6] rfl) hc hs
        · have hq := hq.2.1 c3
          refine lv_tableIn (tgt := 164) hx hb d_La_law_39 (by rw [c3]; decide) (by rw [c3]; decide) (by rw [c3]; rfl) (by decide) ?_
          refine bw_aload_n hx hb d_La_law_164 rfl (lv_at hl 1 rfl) ?_
          refine bw_aload_n hx hb d_La_law_165 rfl (lv_at hl 0 rfl) ?_
          refine lv_iload hx hb d_La_law_166 (lv_at hl 4 rfl) ?_
          refine lv_iconst (v := 1) hx hb d_La_law_168 (by decide) ?_
          refine lv_iadd hx hb d_La_law_169 ?_
          obtain ⟨h24, hq⟩ := hq
          refine va_sld hx hb hX hbl hbA hW.2.2 h24 d_La_law_170 ?_
          refine bw_aload_n hx hb d_La_law_171 rfl (lv_at hl 0 rfl) ?_
          refine lv_iload hx hb d_La_law_172 (lv_at hl 4 rfl) ?_
          refine lv_iconst (v := 2) hx hb d_La_law_174 (by decide) ?_
          refine lv_iadd hx hb d_La_law_175 ?_
          obtain ⟨h25, hq⟩ := hq
          refine va_sld hx hb hX hbl hbA hW.2.2 h25 d_La_law_176 ?_
          refine bw_aload_n hx hb d_La_law_177 rfl (lv_at hl 0 rfl) ?_
          refine lv_iload hx hb d_La_law_178 (lv_at hl 4 rfl) ?_
          refine lv_iconst (v := 3) hx hb d_La_law_180 (by decide) ?_
          refine lv_iadd hx hb d_La_law_181 ?_
          obtain ⟨h26, hq⟩ := hq
          refine va_sld hx hb hX hbl hbA hW.2.2 h26 d_La_law_182 ?_
          refine bw_aload_n hx hb d_La_law_183 rfl (lv_at hl 0 rfl) ?_
          refine lv_iload hx hb d_La_law_184 (lv_at hl 4 rfl) ?_
          refine lv_iconst (v := 4) hx hb d_La_law_186 (by decide) ?_
          refine lv_iadd hx hb d_La_law_187 ?_
          obtain ⟨h27, hq⟩ := hq
          refine va_sld hx hb hX hbl hbA hW.2.2 h27 d_La_law_188 ?_
          refine bw_aload_n hx hb d_La_law_189 rfl (lv_at hl 3 rfl) ?_
          obtain ⟨k30, k31, h32, h33, hq⟩ := hq
          refine bw_callSW (nA := 6) (hh := [(0, 14, 17, 21), (0, 14, 21, 13)]) (As := [va_rf x1, .int (xs (x4 + (1 : Int32)).toNatClampNeg), .int (xs (x4 + (2 : Int32)).toNatClampNeg), .int (xs (x4 + (3 : Int32)).toNatClampNeg), .int (xs (x4 + (4 : Int32)).toNatClampNeg), va_rf x3]) (rest := []) C hW m_336 m_0 m_334 m_335 (by decide) (by decide +kernel) d_La_law_190 rfl rfl hl.1 (by decide) ⟨Nat.le_of_ble_eq_true rfl, Nat.le_of_ble_eq_true rfl⟩ ⟨Nat.le_trans (Nat.add_le_add_left h32 _) hc, Nat.le_trans (Nat.add_le_add_left h33 _) hs⟩ (c_La_join hl0 _ _ _ _ _ _ _ _ _ hq) (fun v28 w29 H locs hv hW => ?_)
          obtain ⟨i34, rfl, hq⟩ := hv
          have hc := bw_bud hc h32
          have hs := bw_bud hs h33
          refine W.eq (g2 := F0 m 193 ls [.int i34]) rfl ?_
          refine lv_istore (lv' := [(5, .int i34), (0, va_rf (some x0)), (1, va_rf x1), (2, va_rf x2), (3, va_rf x3), (4, .int x4)]) hx hb d_La_law_193 hl (by decide) (by simp [bw_cat, cat_i, cat_j]) (fun ls hl => ?_)
          refine bw_aload_n hx hb d_La_law_195 rfl (lv_at hl 3 rfl) ?_
          refine bw_aload_n hx hb d_La_law_196 rfl (lv_at hl 1 rfl) ?_
          refine lv_iload hx hb d_La_law_197 (lv_at hl 5 rfl) ?_
          refine lv_iconst (v := 1) hx hb d_La_law_199 (by decide) ?_
          refine lv_iadd hx hb d_La_law_200 ?_
          obtain ⟨h35, hq⟩ := hq
          refine va_sld hx hb hX hbl hbA hW.2.2 h35 d_La_law_201 ?_
          refine bw_aload_n hx hb d_La_law_202 rfl (lv_at hl 1 rfl) ?_
          refine lv_iload hx hb d_La_law_203 (lv_at hl 5 rfl) ?_
          refine lv_iconst (v := 2) hx hb d_La_law_205 (by decide) ?_
          refine lv_iadd hx hb d_La_law_206 ?_
          obtain ⟨h36, hq⟩ := hq
          refine va_sld hx hb hX hbl hbA hW.2.2 h36 d_La_law_207 ?_
          refine bw_aload_n hx hb d_La_law_208 rfl (lv_at hl 1 rfl) ?_
          refine lv_iload hx hb d_La_law_209 (lv_at hl 5 rfl) ?_
          refine lv_iconst (v := 3) hx hb d_La_law_211 (by decide) ?_
          refine lv_iadd hx hb d_La_law_212 ?_
          obtain ⟨h37, hq⟩ := hq
          refine va_sld hx hb hX hbl hbA hW.2.2 h37 d_La_law_213 ?_
          refine bw_aload_n hx hb d_La_law_214 rfl (lv_at hl 1 rfl) ?_
          refine lv_iload hx hb d_La_law_215 (lv_at hl 5 rfl) ?_
          refine lv_iconst (v := 4) hx hb d_La_law_217 (by decide) ?_
          refine lv_iadd hx hb d_La_law_218 ?_
          obtain ⟨h38, hq⟩ := hq
          refine va_sld hx hb hX hbl hbA hW.2.2 h38 d_La_law_219 ?_
          obtain ⟨a39, ea39, hq⟩ := hq
          obtain ⟨t40, hq⟩ := hq
          refine bw_callV (As := [.int (xs (x4 + (1 : Int32)).toNatClampNeg), .int (xs (x4 + (2 : Int32)).toNatClampNeg), .int (xs (x4 + (3 : Int32)).toNatClampNeg), .int (xs (x4 + (4 : Int32)).toNatClampNeg)]) (rest := []) C hW ci_Mo_join m_851 m_852 m_853 d_La_law_220 ea39 t40 (by decide) rfl rfl rfl hl.1 (by decide) ⟨Nat.le_of_ble_eq_true rfl, Nat.le_of_ble_eq_true rfl⟩ ⟨Nat.le_trans (Nat.add_le_add_left (Nat.zero_le _) _) hc, Nat.le_trans (Nat.add_le_add_left (Nat.zero_le _) _) hs⟩ (c_Mo_join hl0 _ _ _ _ _ _ hq) (fun _ _ _ _ _ _ h => h.elim) (fun v41 w42 H locs hv hW => ?_)
          obtain ⟨i47, rfl, hq⟩ := hv
          have hc := bw_bud0 hc
          have hs := bw_bud0 hs
          refine W.eq (g2 := F0 m 223 ls [.int i47]) rfl ?_
          refine lv_istore (lv' := [(6, .int i47), (5, .int i34), (0, va_rf (some x0)), (1, va_rf x1), (2, va_rf x2), (3, va_rf x3), (4, .int x4)]) hx hb d_La_law_223 hl (by decide) (by simp [bw_cat, cat_i, cat_j]) (fun ls hl => ?_)
          refine lv_goto (tgt := 800) hx hb d_La_law_225 (by decide) ?_
          exact k_La_law_800 C hX hbl hK23 _ _ _ _ _ _ _ hq _ _ _ _ _ hW (lv_sub hl [2, 3, 4, 5, 6] rfl) hc hs
        · have hq := hq.2.2.1 c3
          refine lv_tableIn (tgt := 228) hx hb d_La_law_39 (by rw [c3]; decide) (by rw [c3]; decide) (by rw [c3]; rfl) (by decide) ?_
          refine bw_aload_n hx hb d_La_law_228 rfl (lv_at hl 1 rfl) ?_
          refine bw_aload_n hx hb d_La_law_229 rfl (lv_at hl 0 rfl) ?_
          refine lv_iload hx hb d_La_law_230 (lv_at hl 4 rfl) ?_
          refine lv_iconst (v := 1) hx hb d_La_law_232 (by decide) ?_
          refine lv_iadd hx hb d_La_law_233 ?_
          obtain ⟨h48, hq⟩ := hq
          refine va_sld hx hb hX hbl hbA hW.2.2 h48 d_La_law_234 ?_
          refine bw_aload_n hx hb d_La_law_235 rfl (lv_at hl 0 rfl) ?_
          refine lv_iload hx hb d_La_law_236 (lv_at hl 4 rfl) ?_
          refine lv_iconst (v := 2) hx hb d_La_law_238 (by decide) ?_
          refine lv_iadd hx hb d_La_law_239 ?_
          obtain ⟨h49, hq⟩ := hq
          refine va_sld hx hb hX hbl hbA hW.2.2 h49 d_La_law_240 ?_
          refine bw_aload_n hx hb d_La_law_241 rfl (lv_at hl 0 rfl) ?_
          refine lv_iload hx hb d_La_law_242 (lv_at hl 4 rfl) ?_
          refine lv_iconst (v := 3) hx hb d_La_law_244 (by decide) ?_
          refine lv_iadd hx hb d_La_law_245 ?_
          obtain ⟨h50, hq⟩ := hq
          refine va_sld hx hb hX hbl hbA hW.2.2 h50 d_La_law_246 ?_
          refine lv_if_eq (tgt := 254) hx hb d_La_law_247 (by decide) (fun c51 => ?_) (fun c51 => ?_)
          · have hq := hq.1 c51
            refine lv_iconst (v := 0) hx hb d_La_law_254 (by decide) ?_
            exact k_La_law_255 C hX hbl hK23 _ _ _ _ _ _ _ _ _ _ _ hq _ _ _ _ _ hW (lv_sub hl [0, 1, 2, 3, 4] rfl) hc hs
          · have hq := hq.2 c51
            refine lv_iconst (v := 1) hx hb d_La_law_250 (by decide) ?_
            refine lv_goto (tgt := 255) hx hb d_La_law_251 (by decide) ?_
            exact k_La_law_255 C hX hbl hK23 _ _ _ _ _ _ _ _ _ _ _ hq _ _ _ _ _ hW (lv_sub hl [0, 1, 2, 3, 4] rfl) hc hs
        · have hq := hq.2.2.2.1 c3
          refine lv_tableIn (tgt := 293) hx hb d_La_law_39 (by rw [c3]; decide) (by rw [c3]; decide) (by rw [c3]; rfl) (by decide) ?_
          refine bw_aload_n hx hb d_La_law_293 rfl (lv_at hl 1 rfl) ?_
          refine bw_aload_n hx hb d_La_law_294 rfl (lv_at hl 0 rfl) ?_
          refine lv_iload hx hb d_La_law_295 (lv_at hl 4 rfl) ?_
          refine lv_iconst (v := 1) hx hb d_La_law_297 (by decide) ?_
          refine lv_iadd hx hb d_La_law_298 ?_
          obtain ⟨h52, hq⟩ := hq
          refine va_sld hx hb hX hbl hbA hW.2.2 h52 d_La_law_299 ?_
          obtain ⟨k55, k56, h57, h58, hq⟩ := hq
          refine bw_callSW (nA := 2) (hh := [(0, 5, 8, 13)]) (As := [va_rf x1, .int (xs (x4 + (1 : Int32)).toNatClampNeg)]) (rest := []) C hW m_384 m_0 m_382 m_383 (by decide) (by decide +kernel) d_La_law_300 rfl rfl hl.1 (by decide) ⟨Nat.le_of_ble_eq_true rfl, Nat.le_of_ble_eq_true rfl⟩ ⟨Nat.le_trans (Nat.add_le_add_left h57 _) hc, Nat.le_trans (Nat.add_le_add_left h58 _) hs⟩ (c_La_gaps hl0 _ _ _ _ _ hq) (fun v53 w54 H locs hv hW => ?_)
          obtain ⟨i59, rfl, hq⟩ := hv
          have hc := bw_bud hc h57
          have hs := bw_bud hs h58
          refine W.eq (g2 := F0 m 303 ls [.int i59]) rfl ?_
          refine lv_istore (lv' := [(5, .int i59), (0, va_rf (some x0)), (1, va_rf x1), (2, va_rf x2), (3, va_rf x3), (4, .int x4)]) hx hb d_La_law_303 hl (by decide) (by simp [bw_cat, cat_i, cat_j]) (fun ls hl => ?_)
          refine bw_aload_n hx hb d_La_law_305 rfl (lv_at hl 3 rfl) ?_
          refine bw_aload_n hx hb d_La_law_306 rfl (lv_at hl 1 rfl) ?_
          refine lv_iload hx hb d_La_law_307 (lv_at hl 5 rfl) ?_
          refine lv_iconst (v := 1) hx hb d_La_law_309 (by decide) ?_
          refine lv_iadd hx hb d_La_law_310 ?_
          obtain ⟨h60, hq⟩ := hq
          refine va_sld hx hb hX hbl hbA hW.2.2 h60 d_La_law_311 ?_
          obtain ⟨a61, ea61, hq⟩ := hq
          obtain ⟨t62, hq⟩ := hq
          refine bw_callV (As := [.int (xs (x4 + (1 : Int32)).toNatClampNeg)]) (rest := []) C hW ci_Mo_gaps m_863 m_864 m_865 d_La_law_312 ea61 t62 (by decide) rfl rfl rfl hl.1 (by decide) ⟨Nat.le_of_ble_eq_true rfl, Nat.le_of_ble_eq_true rfl⟩ ⟨Nat.le_trans (Nat.add_le_add_left (Nat.zero_le _) _) hc, Nat.le_trans (Nat.add_le_add_left (Nat.zero_le _) _) hs⟩ (c_Mo_gaps hl0 _ _ _ hq) (fun _ _ _ _ _ _ h => h.elim) (fun v63 w64 H locs hv hW => ?_)
          obtain ⟨rfl, hq⟩ := hv
          have hc := bw_bud0 hc
          have hs := bw_bud0 hs
          refine W.eq (g2 := F0 m 315 ls []) rfl ?_
          refine lv_goto (tgt := 800) hx hb d_La_law_315 (by decide) ?_
          exact k_La_law_800 C hX hbl hK23 _ _ _ _ _ _ _ hq _ _ _ _ _ hW (lv_sub hl [1, 2, 3, 4, 5] rfl) hc hs
        · have hq := hq.2.2.2.2.1 c3
          refine lv_tableIn (tgt := 318) hx hb d_La_law_39 (by rw [c3]; decide) (by rw [c3]; decide) (by rw [c3]; rfl) (by decide) ?_
          refine bw_aload_n hx hb d_La_law_318 rfl (lv_at hl 1 rfl) ?_
          refine bw_aload_n hx hb d_La_law_319 rfl (lv_at hl 0 rfl) ?_
          refine lv_iload hx hb d_La_law_320 (lv_at hl 4 rfl) ?_
          refine lv_iconst (v := 1) hx hb d_La_law_322 (by decide) ?_
          refine lv_iadd hx hb d_La_law_323 ?_
          obtain ⟨h70, hq⟩ := hq
          refine va_sld hx hb hX hbl hbA hW.2.2 h70 d_La_law_324 ?_
          refine bw_aload_n hx hb d_La_law_325 rfl (lv_at hl 0 rfl) ?_
          refine lv_iload hx hb d_La_law_326 (lv_at hl 4 rfl) ?_
          refine lv_iconst (v := 2) hx hb d_La_law_328 (by decide) ?_
          refine lv_iadd hx hb d_La_law_329 ?_
          obtain ⟨h71, hq⟩ := hq
          refine va_sld hx hb hX hbl hbA hW.2.2 h71 d_La_law_330 ?_
          refine bw_aload_n hx hb d_La_law_331 rfl (lv_at hl 0 rfl) ?_
          refine lv_iload hx hb d_La_law_332 (lv_at hl 4 rfl) ?_
          refine lv_iconst (v := 3) hx hb d_La_law_334 (by decide) ?_
          refine lv_iadd hx hb d_La_law_335 ?_
          obtain ⟨h72, hq⟩ := hq
          refine va_sld hx hb hX hbl hbA hW.2.2 h72 d_La_law_336 ?_
          refine bw_aload_n hx hb d_La_law_337 rfl (lv_at hl 3 rfl) ?_
          obtain ⟨k75, k76, h77, h78, hq⟩ := hq
          refine bw_callSW (nA := 5) (hh := [(0, 12, 15, 21), (0, 12, 19, 13), (0, 12, 23, 15)]) (As := [va_rf x1, .int (xs (x4 + (1 : Int32)).toNatClampNeg), .int (xs (x4 + (2 : Int32)).toNatClampNeg), .int (xs (x4 + (3 : Int32)).toNatClampNeg), va_rf x3]) (rest := []) C hW m_391 m_0 m_389 m_390 (by decide) (by decide +kernel) d_La_law_338 rfl rfl hl.1 (by decide) ⟨Nat.le_of_ble_eq_true rfl, Nat.le_of_ble_eq_true rfl⟩ ⟨Nat.le_trans (Nat.add_le_add_left h77 _) hc, Nat.le_trans (Nat.add_le_add_left h78 _) hs⟩ (c_La_scanner hl0 _ _ _ _ _ _ _ _ hq) (fun v73 w74 H locs hv hW => ?_)
          obtain ⟨i79, rfl, hq⟩ := hv
          have hc := bw_bud hc h77
          have hs := bw_bud hs h78
          refine W.eq (g2 := F0 m 341 ls [.int i79]) rfl ?_
          refine lv_istore (lv' := [(5, .int i79), (0, va_rf (some x0)), (1, va_rf x1), (2, va_rf x2), (3, va_rf x3), (4, .int x4)]) hx hb d_La_law_341 hl (by decide) (by simp [bw_cat, cat_i, cat_j]) (fun ls hl => ?_)
          refine bw_aload_n hx hb d_La_law_343 rfl (lv_at hl 3 rfl) ?_
          refine bw_aload_n hx hb d_La_law_344 rfl (lv_at hl 1 rfl) ?_
          refine lv_iload hx hb d_La_law_345 (lv_at hl 5 rfl) ?_
          refine lv_iconst (v := 1) hx hb d_La_law_347 (by decide) ?_
          refine lv_iadd hx hb d_La_law_348 ?_
          obtain ⟨h80, hq⟩ := hq
          refine va_sld hx hb hX hbl hbA hW.2.2 h80 d_La_law_349 ?_
          refine bw_aload_n hx hb d_La_law_350 rfl (lv_at hl 1 rfl) ?_
          refine lv_iload hx hb d_La_law_351 (lv_at hl 5 rfl) ?_
          refine lv_iconst (v := 2) hx hb d_La_law_353 (by decide) ?_
          refine lv_iadd hx hb d_La_law_354 ?_
          obtain ⟨h81, hq⟩ := hq
          refine va_sld hx hb hX hbl hbA hW.2.2 h81 d_La_law_355 ?_
          refine bw_aload_n hx hb d_La_law_356 rfl (lv_at hl 1 rfl) ?_
          refine lv_iload hx hb d_La_law_357 (lv_at hl 5 rfl) ?_
          refine lv_iconst (v := 3) hx hb d_La_law_359 (by decide) ?_
          refine lv_iadd hx hb d_La_law_360 ?_
          obtain ⟨h82, hq⟩ := hq
          refine va_sld hx hb hX hbl hbA hW.2.2 h82 d_La_law_361 ?_
          obtain ⟨a83, ea83, hq⟩ := hq
          obtain ⟨t84, hq⟩ := hq
          refine bw_callV (As := [.int (xs (x4 + (1 : Int32)).toNatClampNeg), .int (xs (x4 + (2 : Int32)).toNatClampNeg), .int (xs (x4 + (3 : Int32)).toNatClampNeg)]) (rest := []) C hW ci_Mo_scanner m_867 m_868 m_869 d_La_law_362 ea83 t84 (by decide) rfl rfl rfl hl.1 (by decide) ⟨Nat.le_of_ble_eq_true rfl, Nat.le_of_ble_eq_true rfl⟩ ⟨Nat.le_trans (Nat.add_le_add_left (Nat.zero_le _) _) hc, Nat.le_trans (Nat.add_le_add_left (Nat.zero_le _) _) hs⟩ (c_Mo_scanner hl0 _ _ _ _ _ hq) (fun _ _ _ _ _ _ h => h.elim) (fun v85 w86 H locs hv hW => ?_)
          obtain ⟨i91, rfl, hq⟩ := hv
          have hc := bw_bud0 hc
          have hs := bw_bud0 hs
          refine W.eq (g2 := F0 m 365 ls [.int i91]) rfl ?_
          refine lv_istore (lv' := [(6, .int i91), (5, .int i79), (0, va_rf (some x0)), (1, va_rf x1), (2, va_rf x2), (3, va_rf x3), (4, .int x4)]) hx hb d_La_law_365 hl (by decide) (by simp [bw_cat, cat_i, cat_j]) (fun ls hl => ?_)
          refine lv_goto (tgt := 800) hx hb d_La_law_367 (by decide) ?_
          exact k_La_law_800 C hX hbl hK23 _ _ _ _ _ _ _ hq _ _ _ _ _ hW (lv_sub hl [2, 3, 4, 5, 6] rfl) hc hs
        · have hq := hq.2.2.2.2.2.1 c3
          refine lv_tableIn (tgt := 370) hx hb d_La_law_39 (by rw [c3]; decide) (by rw [c3]; decide) (by rw [c3]; rfl) (by decide) ?_
          refine bw_aload_n hx hb d_La_law_370 rfl (lv_at hl 1 rfl) ?_
          refine bw_aload_n hx hb d_La_law_371 rfl (lv_at hl 0 rfl) ?_
          refine lv_iload hx hb d_La_law_372 (lv_at hl 4 rfl) ?_
          refine lv_iconst (v := 1) hx hb d_La_law_374 (by decide) ?_
          refine lv_iadd hx hb d_La_law_375 ?_
          obtain ⟨h92, hq⟩ := hq
          refine va_sld hx hb hX hbl hbA hW.2.2 h92 d_La_law_376 ?_
          refine bw_aload_n hx hb d_La_law_377 rfl (lv_at hl 0 rfl) ?_
          refine lv_iload hx hb d_La_law_378 (lv_at hl 4 rfl) ?_
          refine lv_iconst (v := 2) hx hb d_La_law_380 (by decide) ?_
          refine lv_iadd hx hb d_La_law_381 ?_
          obtain ⟨h93, hq⟩ := hq
          refine va_sld hx hb hX hbl hbA hW.2.2 h93 d_La_law_382 ?_
          refine bw_aload_n hx hb d_La_law_383 rfl (lv_at hl 3 rfl) ?_
          obtain ⟨k96, k97, h98, h99, hq⟩ := hq
          refine bw_callSW (nA := 4) (hh := [(0, 10, 13, 21), (0, 10, 17, 13), (0, 10, 21, 15)]) (As := [va_rf x1, .int (xs (x4 + (1 : Int32)).toNatClampNeg), .int (xs (x4 + (2 : Int32)).toNatClampNeg), va_rf x3]) (rest := []) C hW m_422 m_0 m_420 m_421 (by decide) (by decide +kernel) d_La_law_384 rfl rfl hl.1 (by decide) ⟨Nat.le_of_ble_eq_true rfl, Nat.le_of_ble_eq_true rfl⟩ ⟨Nat.le_trans (Nat.add_le_add_left h98 _) hc, Nat.le_trans (Nat.add_le_add_left h99 _) hs⟩ (c_La_item hl0 _ _ _ _ _ _ _ hq) (fun v94 w95 H locs hv hW => ?_)
          obtain ⟨i100, rfl, hq⟩ := hv
          have hc := bw_bud hc h98
          have hs := bw_bud hs h99
          refine W.eq (g2 := F0 m 387 ls [.int i100]) rfl ?_
          refine lv_istore (lv' := [(5, .int i100), (0, va_rf (some x0)), (1, va_rf x1), (2, va_rf x2), (3, va_rf x3), (4, .int x4)]) hx hb d_La_law_387 hl (by decide) (by simp [bw_cat, cat_i, cat_j]) (fun ls hl => ?_)
          refine bw_aload_n hx hb d_La_law_389 rfl (lv_at hl 3 rfl) ?_
          refine bw_aload_n hx hb d_La_law_390 rfl (lv_at hl 1 rfl) ?_
          refine lv_iload hx hb d_La_law_391 (lv_at hl 5 rfl) ?_
          refine lv_iconst (v := 1) hx hb d_La_law_393 (by decide) ?_
          refine lv_iadd hx hb d_La_law_394 ?_
          obtain ⟨h101, hq⟩ := hq
          refine va_sld hx hb hX hbl hbA hW.2.2 h101 d_La_law_395 ?_
          refine bw_aload_n hx hb d_La_law_396 rfl (lv_at hl 1 rfl) ?_
          refine lv_iload hx hb d_La_law_397 (lv_at hl 5 rfl) ?_
          refine lv_iconst (v := 2) hx hb d_La_law_399 (by decide) ?_
          refine lv_iadd hx hb d_La_law_400 ?_
          obtain ⟨h102, hq⟩ := hq
          refine va_sld hx hb hX hbl hbA hW.2.2 h102 d_La_law_401 ?_
          obtain ⟨a103, ea103, hq⟩ := hq
          obtain ⟨t104, hq⟩ := hq
          refine bw_callV (As := [.int (xs (x4 + (1 : Int32)).toNatClampNeg), .int (xs (x4 + (2 : Int32)).toNatClampNeg)]) (rest := []) C hW ci_Mo_item m_871 m_872 m_873 d_La_law_402 ea103 t104 (by decide) rfl rfl rfl hl.1 (by decide) ⟨Nat.le_of_ble_eq_true rfl, Nat.le_of_ble_eq_true rfl⟩ ⟨Nat.le_trans (Nat.add_le_add_left (Nat.zero_le _) _) hc, Nat.le_trans (Nat.add_le_add_left (Nat.zero_le _) _) hs⟩ (c_Mo_item hl0 _ _ _ _ hq) (fun _ _ _ _ _ _ h => h.elim) (fun v105 w106 H locs hv hW => ?_)
          obtain ⟨i111, rfl, hq⟩ := hv
          have hc := bw_bud0 hc
          have hs := bw_bud0 hs
          refine W.eq (g2 := F0 m 405 ls [.int i111]) rfl ?_
          refine lv_istore (lv' := [(6, .int i111), (5, .int i100), (0, va_rf (some x0)), (1, va_rf x1), (2, va_rf x2), (3, va_rf x3), (4, .int x4)]) hx hb d_La_law_405 hl (by decide) (by simp [bw_cat, cat_i, cat_j]) (fun ls hl => ?_)
          refine lv_goto (tgt := 800) hx hb d_La_law_407 (by decide) ?_
          exact k_La_law_800 C hX hbl hK23 _ _ _ _ _ _ _ hq _ _ _ _ _ hW (lv_sub hl [2, 3, 4, 5, 6] rfl) hc hs
        · have hq := hq.2.2.2.2.2.2.1 c3
          refine lv_tableIn (tgt := 410) hx hb d_La_law_39 (by rw [c3]; decide) (by rw [c3]; decide) (by rw [c3]; rfl) (by decide) ?_
          refine bw_aload_n hx hb d_La_law_410 rfl (lv_at hl 1 rfl) ?_
          refine bw_aload_n hx hb d_La_law_411 rfl (lv_at hl 0 rfl) ?_
          refine lv_iload hx hb d_La_law_412 (lv_at hl 4 rfl) ?_
          refine lv_iconst (v := 1) hx hb d_La_law_414 (by decide) ?_
          refine lv_iadd hx hb d_La_law_415 ?_
          obtain ⟨h112, hq⟩ := hq
          refine va_sld hx hb hX hbl hbA hW.2.2 h112 d_La_law_416 ?_
          refine bw_aload_n hx hb d_La_law_417 rfl (lv_at hl 0 rfl) ?_
          refine lv_iload hx hb d_La_law_418 (lv_at hl 4 rfl) ?_
          refine lv_iconst (v := 2) hx hb d_La_law_420 (by decide) ?_
          refine lv_iadd hx hb d_La_law_421 ?_
          obtain ⟨h113, hq⟩ := hq
          refine va_sld hx hb hX hbl hbA hW.2.2 h113 d_La_law_422 ?_
          refine bw_aload_n hx hb d_La_law_423 rfl (lv_at hl 3 rfl) ?_
          obtain ⟨k116, k117, h118, h119, hq⟩ := hq
          refine bw_callSW (nA := 4) (hh := [(0, 10, 13, 21), (0, 10, 17, 13), (0, 10, 21, 41)]) (As := [va_rf x1, .int (xs (x4 + (1 : Int32)).toNatClampNeg), .int (xs (x4 + (2 : Int32)).toNatClampNeg), va_rf x3]) (rest := []) C hW m_505 m_0 m_503 m_504 (by decide) (by decide +kernel) d_La_law_424 rfl rfl hl.1 (by decide) ⟨Nat.le_of_ble_eq_true rfl, Nat.le_of_ble_eq_true rfl⟩ ⟨Nat.le_trans (Nat.add_le_add_left h118 _) hc, Nat.le_trans (Nat.add_le_add_left h119 _) hs⟩ (c_La_divert hl0 _ _ _ _ _ _ _ hq) (fun v114 w115 H locs hv hW => ?_)
          obtain ⟨i120, rfl, hq⟩ := hv
          have hc := bw_bud hc h118
          have hs := bw_bud hs h119
          refine W.eq (g2 := F0 m 427 ls [.int i120]) rfl ?_
          refine lv_istore (lv' := [(5, .int i120), (0, va_rf (some x0)), (1, va_rf x1), (2, va_rf x2), (3, va_rf x3), (4, .int x4)]) hx hb d_La_law_427 hl (by decide) (by simp [bw_cat, cat_i, cat_j]) (fun ls hl => ?_)
          refine bw_aload_n hx hb d_La_law_429 rfl (lv_at hl 3 rfl) ?_
          refine bw_aload_n hx hb d_La_law_430 rfl (lv_at hl 1 rfl) ?_
          refine lv_iload hx hb d_La_law_431 (lv_at hl 5 rfl) ?_
          refine lv_iconst (v := 1) hx hb d_La_law_433 (by decide) ?_
          refine lv_iadd hx hb d_La_law_434 ?_
          obtain ⟨h121, hq⟩ := hq
          refine va_sld hx hb hX hbl hbA hW.2.2 h121 d_La_law_435 ?_
          refine bw_aload_n hx hb d_La_law_436 rfl (lv_at hl 1 rfl) ?_
          refine lv_iload hx hb d_La_law_437 (lv_at hl 5 rfl) ?_
          refine lv_iconst (v := 2) hx hb d_La_law_439 (by decide) ?_
          refine lv_iadd hx hb d_La_law_440 ?_
          obtain ⟨h122, hq⟩ := hq
          refine va_sld hx hb hX hbl hbA hW.2.2 h122 d_La_law_441 ?_
          obtain ⟨a123, ea123, hq⟩ := hq
          obtain ⟨t124, hq⟩ := hq
          refine bw_callV (As := [.int (xs (x4 + (1 : Int32)).toNatClampNeg), .int (xs (x4 + (2 : Int32)).toNatClampNeg)]) (rest := []) C hW ci_Mo_divert m_891 m_892 m_893 d_La_law_442 ea123 t124 (by decide) rfl rfl rfl hl.1 (by decide) ⟨Nat.le_of_ble_eq_true rfl, Nat.le_of_ble_eq_true rfl⟩ ⟨Nat.le_trans (Nat.add_le_add_left (Nat.zero_le _) _) hc, Nat.le_trans (Nat.add_le_add_left (Nat.zero_le _) _) hs⟩ (c_Mo_divert hl0 _ _ _ _ hq) (fun _ _ _ _ _ _ h => h.elim) (fun v125 w126 H locs hv hW => ?_)
          obtain ⟨i131, rfl, hq⟩ := hv
          have hc := bw_bud0 hc
          have hs := bw_bud0 hs
          refine W.eq (g2 := F0 m 445 ls [.int i131]) rfl ?_
          refine lv_istore (lv' := [(6, .int i131), (5, .int i120), (0, va_rf (some x0)), (1, va_rf x1), (2, va_rf x2), (3, va_rf x3), (4, .int x4)]) hx hb d_La_law_445 hl (by decide) (by simp [bw_cat, cat_i, cat_j]) (fun ls hl => ?_)
          refine lv_goto (tgt := 800) hx hb d_La_law_447 (by decide) ?_
          exact k_La_law_800 C hX hbl hK23 _ _ _ _ _ _ _ hq _ _ _ _ _ hW (lv_sub hl [2, 3, 4, 5, 6] rfl) hc hs
        · have hq := hq.2.2.2.2.2.2.2.1 c3
          refine lv_tableIn (tgt := 450) hx hb d_La_law_39 (by rw [c3]; decide) (by rw [c3]; decide) (by rw [c3]; rfl) (by decide) ?_
          refine bw_aload_n hx hb d_La_law_450 rfl (lv_at hl 1 rfl) ?_
          refine bw_aload_n hx hb d_La_law_451 rfl (lv_at hl 0 rfl) ?_
          refine lv_iload hx hb d_La_law_452 (lv_at hl 4 rfl) ?_
          refine lv_iconst (v := 1) hx hb d_La_law_454 (by decide) ?_
          refine lv_iadd hx hb d_La_law_455 ?_
          obtain ⟨h132, hq⟩ := hq
          refine va_sld hx hb hX hbl hbA hW.2.2 h132 d_La_law_456 ?_
          refine bw_aload_n hx hb d_La_law_457 rfl (lv_at hl 3 rfl) ?_
          obtain ⟨k135, k136, h137, h138, hq⟩ := hq
          refine bw_callSW (nA := 3) (hh := [(0, 9, 12, 13)]) (As := [va_rf x1, .int (xs (x4 + (1 : Int32)).toNatClampNeg), va_rf x3]) (rest := []) C hW m_537 m_0 m_535 m_536 (by decide) (by decide +kernel) d_La_law_458 rfl rfl hl.1 (by decide) ⟨Nat.le_of_ble_eq_true rfl, Nat.le_of_ble_eq_true rfl⟩ ⟨Nat.le_trans (Nat.add_le_add_left h137 _) hc, Nat.le_trans (Nat.add_le_add_left h138 _) hs⟩ (c_La_step hl0 _ _ _ _ _ _ hq) (fun v133 w134 H locs hv hW => ?_)
          obtain ⟨i139, rfl, hq⟩ := hv
          have hc := bw_bud hc h137
          have hs := bw_bud hs h138
          refine W.eq (g2 := F0 m 461 ls [.int i139]) rfl ?_
          refine lv_istore (lv' := [(5, .int i139), (0, va_rf (some x0)), (1, va_rf x1), (2, va_rf x2), (3, va_rf x3), (4, .int x4)]) hx hb d_La_law_461 hl (by decide) (by simp [bw_cat, cat_i, cat_j]) (fun ls hl => ?_)
          refine bw_aload_n hx hb d_La_law_463 rfl (lv_at hl 3 rfl) ?_
          refine bw_aload_n hx hb d_La_law_464 rfl (lv_at hl 1 rfl) ?_
          refine lv_iload hx hb d_La_law_465 (lv_at hl 5 rfl) ?_
          refine lv_iconst (v := 1) hx hb d_La_law_467 (by decide) ?_
          refine lv_iadd hx hb d_La_law_468 ?_
          obtain ⟨h140, hq⟩ := hq
          refine va_sld hx hb hX hbl hbA hW.2.2 h140 d_La_law_469 ?_
          obtain ⟨a141, ea141, hq⟩ := hq
          obtain ⟨t142, hq⟩ := hq
          refine bw_callV (As := [.int (xs (x4 + (1 : Int32)).toNatClampNeg)]) (rest := []) C hW ci_Mo_step m_899 m_900 m_901 d_La_law_470 ea141 t142 (by decide) rfl rfl rfl hl.1 (by decide) ⟨Nat.le_of_ble_eq_true rfl, Nat.le_of_ble_eq_true rfl⟩ ⟨Nat.le_trans (Nat.add_le_add_left (Nat.zero_le _) _) hc, Nat.le_trans (Nat.add_le_add_left (Nat.zero_le _) _) hs⟩ (c_Mo_step hl0 _ _ _ hq) (fun _ _ _ _ _ _ h => h.elim) (fun v143 w144 H locs hv hW => ?_)
          obtain ⟨i149, rfl, hq⟩ := hv
          have hc := bw_bud0 hc
          have hs := bw_bud0 hs
          refine W.eq (g2 := F0 m 473 ls [.int i149]) rfl ?_
          refine lv_istore (lv' := [(6, .int i149), (5, .int i139), (0, va_rf (some x0)), (1, va_rf x1), (2, va_rf x2), (3, va_rf x3), (4, .int x4)]) hx hb d_La_law_473 hl (by decide) (by simp [bw_cat, cat_i, cat_j]) (fun ls hl => ?_)
          refine lv_goto (tgt := 800) hx hb d_La_law_475 (by decide) ?_
          exact k_La_law_800 C hX hbl hK23 _ _ _ _ _ _ _ hq _ _ _ _ _ hW (lv_sub hl [2, 3, 4, 5, 6] rfl) hc hs
        · have hq := hq.2.2.2.2.2.2.2.2.1 c3
          refine lv_tableIn (tgt := 478) hx hb d_La_law_39 (by rw [c3]; decide) (by rw [c3]; decide) (by rw [c3]; rfl) (by decide) ?_
          refine bw_aload_n hx hb d_La_law_478 rfl (lv_at hl 1 rfl) ?_
          refine bw_aload_n hx hb d_La_law_479 rfl (lv_at hl 0 rfl) ?_
          refine lv_iload hx hb d_La_law_480 (lv_at hl 4 rfl) ?_
          refine lv_iconst (v := 1) hx hb d_La_law_482 (by decide) ?_
          refine lv_iadd hx hb d_La_law_483 ?_
          obtain ⟨h150, hq⟩ := hq
          refine va_sld hx hb hX hbl hbA hW.2.2 h150 d_La_law_484 ?_
          refine bw_aload_n hx hb d_La_law_485 rfl (lv_at hl 0 rfl) ?_
          refine lv_iload hx hb d_La_law_486 (lv_at hl 4 rfl) ?_
          refine lv_iconst (v := 2) hx hb d_La_law_488 (by decide) ?_
          refine lv_iadd hx hb d_La_law_489 ?_
          obtain ⟨h151, hq⟩ := hq
          refine va_sld hx hb hX hbl hbA hW.2.2 h151 d_La_law_490 ?_
          refine bw_aload_n hx hb d_La_law_491 rfl (lv_at hl 3 rfl) ?_
          obtain ⟨k154, k155, h156, h157, hq⟩ := hq
          refine bw_callSW (nA := 4) (hh := [(0, 10, 13, 21), (0, 10, 17, 13)]) (As := [va_rf x1, .int (xs (x4 + (1 : Int32)).toNatClampNeg), .int (xs (x4 + (2 : Int32)).toNatClampNeg), va_rf x3]) (rest := []) C hW m_647 m_0 m_645 m_646 (by decide) (by decide +kernel) d_La_law_492 rfl rfl hl.1 (by decide) ⟨Nat.le_of_ble_eq_true rfl, Nat.le_of_ble_eq_true rfl⟩ ⟨Nat.le_trans (Nat.add_le_add_left h156 _) hc, Nat.le_trans (Nat.add_le_add_left h157 _) hs⟩ (c_La_edge hl0 _ _ _ _ _ _ _ hq) (fun v152 w153 H locs hv hW => ?_)
          obtain ⟨i158, rfl, hq⟩ := hv
          have hc := bw_bud hc h156
          have hs := bw_bud hs h157
          refine W.eq (g2 := F0 m 495 ls [.int i158]) rfl ?_
          refine lv_istore (lv' := [(5, .int i158), (0, va_rf (some x0)), (1, va_rf x1), (2, va_rf x2), (3, va_rf x3), (4, .int x4)]) hx hb d_La_law_495 hl (by decide) (by simp [bw_cat, cat_i, cat_j]) (fun ls hl => ?_)
          refine bw_aload_n hx hb d_La_law_497 rfl (lv_at hl 3 rfl) ?_
          refine bw_aload_n hx hb d_La_law_498 rfl (lv_at hl 1 rfl) ?_
          refine lv_iload hx hb d_La_law_499 (lv_at hl 5 rfl) ?_
          refine lv_iconst (v := 1) hx hb d_La_law_501 (by decide) ?_
          refine lv_iadd hx hb d_La_law_502 ?_
          obtain ⟨h159, hq⟩ := hq
          refine va_sld hx hb hX hbl hbA hW.2.2 h159 d_La_law_503 ?_
          refine bw_aload_n hx hb d_La_law_504 rfl (lv_at hl 1 rfl) ?_
          refine lv_iload hx hb d_La_law_505 (lv_at hl 5 rfl) ?_
          refine lv_iconst (v := 2) hx hb d_La_law_507 (by decide) ?_
          refine lv_iadd hx hb d_La_law_508 ?_
          obtain ⟨h160, hq⟩ := hq
          refine va_sld hx hb hX hbl hbA hW.2.2 h160 d_La_law_509 ?_
          obtain ⟨a161, ea161, hq⟩ := hq
          obtain ⟨t162, hq⟩ := hq
          refine bw_callV (As := [.int (xs (x4 + (1 : Int32)).toNatClampNeg), .int (xs (x4 + (2 : Int32)).toNatClampNeg)]) (rest := []) C hW ci_Mo_edge m_936 m_937 m_938 d_La_law_510 ea161 t162 (by decide) rfl rfl rfl hl.1 (by decide) ⟨Nat.le_of_ble_eq_true rfl, Nat.le_of_ble_eq_true rfl⟩ ⟨Nat.le_trans (Nat.add_le_add_left (Nat.zero_le _) _) hc, Nat.le_trans (Nat.add_le_add_left (Nat.zero_le _) _) hs⟩ (c_Mo_edge hl0 _ _ _ _ hq) (fun _ _ _ _ _ _ h => h.elim) (fun v163 w164 H locs hv hW => ?_)
          obtain ⟨i169, rfl, hq⟩ := hv
          have hc := bw_bud0 hc
          have hs := bw_bud0 hs
          refine W.eq (g2 := F0 m 513 ls [.int i169]) rfl ?_
          refine lv_istore (lv' := [(6, .int i169), (5, .int i158), (0, va_rf (some x0)), (1, va_rf x1), (2, va_rf x2), (3, va_rf x3), (4, .int x4)]) hx hb d_La_law_513 hl (by decide) (by simp [bw_cat, cat_i, cat_j]) (fun ls hl => ?_)
          refine lv_goto (tgt := 800) hx hb d_La_law_515 (by decide) ?_
          exact k_La_law_800 C hX hbl hK23 _ _ _ _ _ _ _ hq _ _ _ _ _ hW (lv_sub hl [2, 3, 4, 5, 6] rfl) hc hs
        · have hq := hq.2.2.2.2.2.2.2.2.2.1 c3
          refine lv_tableIn (tgt := 518) hx hb d_La_law_39 (by rw [c3]; decide) (by rw [c3]; decide) (by rw [c3]; rfl) (by decide) ?_
          refine bw_aload_n hx hb d_La_law_518 rfl (lv_at hl 1 rfl) ?_
          refine bw_aload_n hx hb d_La_law_519 rfl (lv_at hl 0 rfl) ?_
          refine lv_iload hx hb d_La_law_520 (lv_at hl 4 rfl) ?_
          refine lv_iconst (v := 1) hx hb d_La_law_522 (by decide) ?_
          refine lv_iadd hx hb d_La_law_523 ?_
          obtain ⟨h170, hq⟩ := hq
          refine va_sld hx hb hX hbl hbA hW.2.2 h170 d_La_law_524 ?_
          refine bw_aload_n hx hb d_La_law_525 rfl (lv_at hl 0 rfl) ?_
          refine lv_iload hx hb d_La_law_526 (lv_at hl 4 rfl) ?_
          refine lv_iconst (v := 2) hx hb d_La_law_528 (by decide) ?_
          refine lv_iadd hx hb d_La_law_529 ?_
          obtain ⟨h171, hq⟩ := hq
          refine va_sld hx hb hX hbl hbA hW.2.2 h171 d_La_law_530 ?_
          refine bw_aload_n hx hb d_La_law_531 rfl (lv_at hl 3 rfl) ?_
          obtain ⟨k174, k175, h176, h177, hq⟩ := hq
          refine bw_callSW (nA := 4) (hh := [(0, 10, 13, 21), (0, 10, 17, 13), (0, 10, 21, 41)]) (As := [va_rf x1, .int (xs (x4 + (1 : Int32)).toNatClampNeg), .int (xs (x4 + (2 : Int32)).toNatClampNeg), va_rf x3]) (rest := []) C hW m_656 m_0 m_654 m_655 (by decide) (by decide +kernel) d_La_law_532 rfl rfl hl.1 (by decide) ⟨Nat.le_of_ble_eq_true rfl, Nat.le_of_ble_eq_true rfl⟩ ⟨Nat.le_trans (Nat.add_le_add_left h176 _) hc, Nat.le_trans (Nat.add_le_add_left h177 _) hs⟩ (c_La_slip hl0 _ _ _ _ _ _ _ hq) (fun v172 w173 H locs hv hW => ?_)
          obtain ⟨i178, rfl, hq⟩ := hv
          have hc := bw_bud hc h176
          have hs := bw_bud hs h177
          refine W.eq (g2 := F0 m 535 ls [.int i178]) rfl ?_
          refine lv_istore (lv' := [(5, .int i178), (0, va_rf (some x0)), (1, va_rf x1), (2, va_rf x2), (3, va_rf x3), (4, .int x4)]) hx hb d_La_law_535 hl (by decide) (by simp [bw_cat, cat_i, cat_j]) (fun ls hl => ?_)
          refine bw_aload_n hx hb d_La_law_537 rfl (lv_at hl 3 rfl) ?_
          refine bw_aload_n hx hb d_La_law_538 rfl (lv_at hl 1 rfl) ?_
          refine lv_iload hx hb d_La_law_539 (lv_at hl 5 rfl) ?_
          refine lv_iconst (v := 1) hx hb d_La_law_541 (by decide) ?_
          refine lv_iadd hx hb d_La_law_542 ?_
          obtain ⟨h179, hq⟩ := hq
          refine va_sld hx hb hX hbl hbA hW.2.2 h179 d_La_law_543 ?_
          refine bw_aload_n hx hb d_La_law_544 rfl (lv_at hl 1 rfl) ?_
          refine lv_iload hx hb d_La_law_545 (lv_at hl 5 rfl) ?_
          refine lv_iconst (v := 2) hx hb d_La_law_547 (by decide) ?_
          refine lv_iadd hx hb d_La_law_548 ?_
          obtain ⟨h180, hq⟩ := hq
          refine va_sld hx hb hX hbl hbA hW.2.2 h180 d_La_law_549 ?_
          obtain ⟨a181, ea181, hq⟩ := hq
          obtain ⟨t182, hq⟩ := hq
          refine bw_callV (As := [.int (xs (x4 + (1 : Int32)).toNatClampNeg), .int (xs (x4 + (2 : Int32)).toNatClampNeg)]) (rest := []) C hW ci_Mo_slip m_941 m_942 m_943 d_La_law_550 ea181 t182 (by decide) rfl rfl rfl hl.1 (by decide) ⟨Nat.le_of_ble_eq_true rfl, Nat.le_of_ble_eq_true rfl⟩ ⟨Nat.le_trans (Nat.add_le_add_left (Nat.zero_le _) _) hc, Nat.le_trans (Nat.add_le_add_left (Nat.zero_le _) _) hs⟩ (c_Mo_slip hl0 _ _ _ _ hq) (fun _ _ _ _ _ _ h => h.elim) (fun v183 w184 H locs hv hW => ?_)
          obtain ⟨i189, rfl, hq⟩ := hv
          have hc := bw_bud0 hc
          have hs := bw_bud0 hs
          refine W.eq (g2 := F0 m 553 ls [.int i189]) rfl ?_
          refine lv_istore (lv' := [(6, .int i189), (5, .int i178), (0, va_rf (some x0)), (1, va_rf x1), (2, va_rf x2), (3, va_rf x3), (4, .int x4)]) hx hb d_La_law_553 hl (by decide) (by simp [bw_cat, cat_i, cat_j]) (fun ls hl => ?_)
          refine lv_goto (tgt := 800) hx hb d_La_law_555 (by decide) ?_
          exact k_La_law_800 C hX hbl hK23 _ _ _ _ _ _ _ hq _ _ _ _ _ hW (lv_sub hl [2, 3, 4, 5, 6] rfl) hc hs
        · have hq := hq.2.2.2.2.2.2.2.2.2.2.1 c3
          refine lv_tableIn (tgt := 558) hx hb d_La_law_39 (by rw [c3]; decide) (by rw [c3]; decide) (by rw [c3]; rfl) (by decide) ?_
          refine bw_aload_n hx hb d_La_law_558 rfl (lv_at hl 1 rfl) ?_
          refine bw_aload_n hx hb d_La_law_559 rfl (lv_at hl 0 rfl) ?_
          refine lv_iload hx hb d_La_law_560 (lv_at hl 4 rfl) ?_
          refine lv_iconst (v := 1) hx hb d_La_law_562 (by decide) ?_
          refine lv_iadd hx hb d_La_law_563 ?_
          obtain ⟨h190, hq⟩ := hq
          refine va_sld hx hb hX hbl hbA hW.2.2 h190 d_La_law_564 ?_
          obtain ⟨k193, k194, h195, h196, hq⟩ := hq
          refine bw_callSW (nA := 2) (hh := [(0, 5, 8, 21), (0, 5, 11, 41)]) (As := [va_rf x1, .int (xs (x4 + (1 : Int32)).toNatClampNeg)]) (rest := []) C hW m_665 m_0 m_663 m_664 (by decide) (by decide +kernel) d_La_law_565 rfl rfl hl.1 (by decide) ⟨Nat.le_of_ble_eq_true rfl, Nat.le_of_ble_eq_true rfl⟩ ⟨Nat.le_trans (Nat.add_le_add_left h195 _) hc, Nat.le_trans (Nat.add_le_add_left h196 _) hs⟩ (c_La_take hl0 _ _ _ _ _ hq) (fun v191 w192 H locs hv hW => ?_)
          obtain ⟨i197, rfl, hq⟩ := hv
          have hc := bw_bud hc h195
          have hs := bw_bud hs h196
          refine W.eq (g2 := F0 m 568 ls [.int i197]) rfl ?_
          refine lv_istore (lv' := [(5, .int i197), (0, va_rf (some x0)), (1, va_rf x1), (2, va_rf x2), (3, va_rf x3), (4, .int x4)]) hx hb d_La_law_568 hl (by decide) (by simp [bw_cat, cat_i, cat_j]) (fun ls hl => ?_)
          refine bw_aload_n hx hb d_La_law_570 rfl (lv_at hl 3 rfl) ?_
          refine bw_aload_n hx hb d_La_law_571 rfl (lv_at hl 1 rfl) ?_
          refine lv_iload hx hb d_La_law_572 (lv_at hl 5 rfl) ?_
          refine lv_iconst (v := 1) hx hb d_La_law_574 (by decide) ?_
          refine lv_iadd hx hb d_La_law_575 ?_
          obtain ⟨h198, hq⟩ := hq
          refine va_sld hx hb hX hbl hbA hW.2.2 h198 d_La_law_576 ?_
          obtain ⟨a199, ea199, hq⟩ := hq
          obtain ⟨t200, hq⟩ := hq
          refine bw_callV (As := [.int (xs (x4 + (1 : Int32)).toNatClampNeg)]) (rest := []) C hW ci_Mo_take m_945 m_946 m_947 d_La_law_577 ea199 t200 (by decide) rfl rfl rfl hl.1 (by decide) ⟨Nat.le_of_ble_eq_true rfl, Nat.le_of_ble_eq_true rfl⟩ ⟨Nat.le_trans (Nat.add_le_add_left (Nat.zero_le _) _) hc, Nat.le_trans (Nat.add_le_add_left (Nat.zero_le _) _) hs⟩ (c_Mo_take hl0 _ _ _ hq) (fun _ _ _ _ _ _ h => h.elim) (fun v201 w202 H locs hv hW => ?_)
          obtain ⟨rfl, hq⟩ := hv
          have hc := bw_bud0 hc
          have hs := bw_bud0 hs
          refine W.eq (g2 := F0 m 580 ls []) rfl ?_
          refine lv_goto (tgt := 800) hx hb d_La_law_580 (by decide) ?_
          exact k_La_law_800 C hX hbl hK23 _ _ _ _ _ _ _ hq _ _ _ _ _ hW (lv_sub hl [1, 2, 3, 4, 5] rfl) hc hs
        · have hq := hq.2.2.2.2.2.2.2.2.2.2.2.1 c3
          refine lv_tableIn (tgt := 583) hx hb d_La_law_39 (by rw [c3]; decide) (by rw [c3]; decide) (by rw [c3]; rfl) (by decide) ?_
          refine bw_aload_n hx hb d_La_law_583 rfl (lv_at hl 1 rfl) ?_
          refine bw_aload_n hx hb d_La_law_584 rfl (lv_at hl 0 rfl) ?_
          refine lv_iload hx hb d_La_law_585 (lv_at hl 4 rfl) ?_
          refine lv_iconst (v := 1) hx hb d_La_law_587 (by decide) ?_
          refine lv_iadd hx hb d_La_law_588 ?_
          obtain ⟨h208, hq⟩ := hq
          refine va_sld hx hb hX hbl hbA hW.2.2 h208 d_La_law_589 ?_
          refine bw_aload_n hx hb d_La_law_590 rfl (lv_at hl 3 rfl) ?_
          obtain ⟨k211, k212, h213, h214, hq⟩ := hq
          refine bw_callSW (nA := 3) (hh := [(0, 9, 12, 21), (0, 9, 15, 41)]) (As := [va_rf x1, .int (xs (x4 + (1 : Int32)).toNatClampNeg), va_rf x3]) (rest := []) C hW m_672 m_0 m_670 m_671 (by decide) (by decide +kernel) d_La_law_591 rfl rfl hl.1 (by decide) ⟨Nat.le_of_ble_eq_true rfl, Nat.le_of_ble_eq_true rfl⟩ ⟨Nat.le_trans (Nat.add_le_add_left h213 _) hc, Nat.le_trans (Nat.add_le_add_left h214 _) hs⟩ (c_La_clean hl0 _ _ _ _ _ _ hq) (fun v209 w210 H locs hv hW => ?_)
          obtain ⟨i215, rfl, hq⟩ := hv
          have hc := bw_bud hc h213
          have hs := bw_bud hs h214
          refine W.eq (g2 := F0 m 594 ls [.int i215]) rfl ?_
          refine lv_istore (lv' := [(5, .int i215), (0, va_rf (some x0)), (1, va_rf x1), (2, va_rf x2), (3, va_rf x3), (4, .int x4)]) hx hb d_La_law_594 hl (by decide) (by simp [bw_cat, cat_i, cat_j]) (fun ls hl => ?_)
          refine bw_aload_n hx hb d_La_law_596 rfl (lv_at hl 3 rfl) ?_
          refine bw_aload_n hx hb d_La_law_597 rfl (lv_at hl 1 rfl) ?_
          refine lv_iload hx hb d_La_law_598 (lv_at hl 5 rfl) ?_
          refine lv_iconst (v := 1) hx hb d_La_law_600 (by decide) ?_
          refine lv_iadd hx hb d_La_law_601 ?_
          obtain ⟨h216, hq⟩ := hq
          refine va_sld hx hb hX hbl hbA hW.2.2 h216 d_La_law_602 ?_
          obtain ⟨a217, ea217, hq⟩ := hq
          obtain ⟨t218, hq⟩ := hq
          refine bw_callV (As := [.int (xs (x4 + (1 : Int32)).toNatClampNeg)]) (rest := []) C hW ci_Mo_clean m_949 m_950 m_951 d_La_law_603 ea217 t218 (by decide) rfl rfl rfl hl.1 (by decide) ⟨Nat.le_of_ble_eq_true rfl, Nat.le_of_ble_eq_true rfl⟩ ⟨Nat.le_trans (Nat.add_le_add_left (Nat.zero_le _) _) hc, Nat.le_trans (Nat.add_le_add_left (Nat.zero_le _) _) hs⟩ (c_Mo_clean hl0 _ _ _ hq) (fun _ _ _ _ _ _ h => h.elim) (fun v219 w220 H locs hv hW => ?_)
          obtain ⟨i225, rfl, hq⟩ := hv
          have hc := bw_bud0 hc
          have hs := bw_bud0 hs
          refine W.eq (g2 := F0 m 606 ls [.int i225]) rfl ?_
          refine lv_istore (lv' := [(6, .int i225), (5, .int i215), (0, va_rf (some x0)), (1, va_rf x1), (2, va_rf x2), (3, va_rf x3), (4, .int x4)]) hx hb d_La_law_606 hl (by decide) (by simp [bw_cat, cat_i, cat_j]) (fun ls hl => ?_)
          refine lv_goto (tgt := 800) hx hb d_La_law_608 (by decide) ?_
          exact k_La_law_800 C hX hbl hK23 _ _ _ _ _ _ _ hq _ _ _ _ _ hW (lv_sub hl [2, 3, 4, 5, 6] rfl) hc hs
        · have hq := hq.2.2.2.2.2.2.2.2.2.2.2.2.1 c3
          refine lv_tableIn (tgt := 611) hx hb d_La_law_39 (by rw [c3]; decide) (by rw [c3]; decide) (by rw [c3]; rfl) (by decide) ?_
          refine bw_aload_n hx hb d_La_law_611 rfl (lv_at hl 1 rfl) ?_
          refine bw_aload_n hx hb d_La_law_612 rfl (lv_at hl 0 rfl) ?_
          refine lv_iload hx hb d_La_law_613 (lv_at hl 4 rfl) ?_
          refine lv_iconst (v := 1) hx hb d_La_law_615 (by decide) ?_
          refine lv_iadd hx hb d_La_law_616 ?_
          obtain ⟨h226, hq⟩ := hq
          refine va_sld hx hb hX hbl hbA hW.2.2 h226 d_La_law_617 ?_
          refine bw_aload_n hx hb d_La_law_618 rfl (lv_at hl 0 rfl) ?_
          refine lv_iload hx hb d_La_law_619 (lv_at hl 4 rfl) ?_
          refine lv_iconst (v := 2) hx hb d_La_law_621 (by decide) ?_
          refine lv_iadd hx hb d_La_law_622 ?_
          obtain ⟨h227, hq⟩ := hq
          refine va_sld hx hb hX hbl hbA hW.2.2 h227 d_La_law_623 ?_
          refine bw_aload_n hx hb d_La_law_624 rfl (lv_at hl 3 rfl) ?_
          obtain ⟨k230, k231, h232, h233, hq⟩ := hq
          refine bw_callSW (nA := 4) (hh := [(0, 10, 13, 21), (0, 10, 17, 41)]) (As := [va_rf x1, .int (xs (x4 + (1 : Int32)).toNatClampNeg), .int (xs (x4 + (2 : Int32)).toNatClampNeg), va_rf x3]) (rest := []) C hW m_680 m_0 m_678 m_679 (by decide) (by decide +kernel) d_La_law_625 rfl rfl hl.1 (by decide) ⟨Nat.le_of_ble_eq_true rfl, Nat.le_of_ble_eq_true rfl⟩ ⟨Nat.le_trans (Nat.add_le_add_left h232 _) hc, Nat.le_trans (Nat.add_le_add_left h233 _) hs⟩ (c_La_gap hl0 _ _ _ _ _ _ _ hq) (fun v228 w229 H locs hv hW => ?_)
          obtain ⟨i234, rfl, hq⟩ := hv
          have hc := bw_bud hc h232
          have hs := bw_bud hs h233
          refine W.eq (g2 := F0 m 628 ls [.int i234]) rfl ?_
          refine lv_istore (lv' := [(5, .int i234), (0, va_rf (some x0)), (1, va_rf x1), (2, va_rf x2), (3, va_rf x3), (4, .int x4)]) hx hb d_La_law_628 hl (by decide) (by simp [bw_cat, cat_i, cat_j]) (fun ls hl => ?_)
          refine bw_aload_n hx hb d_La_law_630 rfl (lv_at hl 3 rfl) ?_
          refine bw_aload_n hx hb d_La_law_631 rfl (lv_at hl 1 rfl) ?_
          refine lv_iload hx hb d_La_law_632 (lv_at hl 5 rfl) ?_
          refine lv_iconst (v := 1) hx hb d_La_law_634 (by decide) ?_
          refine lv_iadd hx hb d_La_law_635 ?_
          obtain ⟨h235, hq⟩ := hq
          refine va_sld hx hb hX hbl hbA hW.2.2 h235 d_La_law_636 ?_
          refine bw_aload_n hx hb d_La_law_637 rfl (lv_at hl 1 rfl) ?_
          refine lv_iload hx hb d_La_law_638 (lv_at hl 5 rfl) ?_
          refine lv_iconst (v := 2) hx hb d_La_law_640 (by decide) ?_
          refine lv_iadd hx hb d_La_law_641 ?_
          obtain ⟨h236, hq⟩ := hq
          refine va_sld hx hb hX hbl hbA hW.2.2 h236 d_La_law_642 ?_
          obtain ⟨a237, ea237, hq⟩ := hq
          obtain ⟨t238, hq⟩ := hq
          refine bw_callV (As := [.int (xs (x4 + (1 : Int32)).toNatClampNeg), .int (xs (x4 + (2 : Int32)).toNatClampNeg)]) (rest := []) C hW ci_Mo_gap m_953 m_954 m_955 d_La_law_643 ea237 t238 (by decide) rfl rfl rfl hl.1 (by decide) ⟨Nat.le_of_ble_eq_true rfl, Nat.le_of_ble_eq_true rfl⟩ ⟨Nat.le_trans (Nat.add_le_add_left (Nat.zero_le _) _) hc, Nat.le_trans (Nat.add_le_add_left (Nat.zero_le _) _) hs⟩ (c_Mo_gap hl0 _ _ _ _ hq) (fun _ _ _ _ _ _ h => h.elim) (fun v239 w240 H locs hv hW => ?_)
          obtain ⟨i245, rfl, hq⟩ := hv
          have hc := bw_bud0 hc
          have hs := bw_bud0 hs
          refine W.eq (g2 := F0 m 646 ls [.int i245]) rfl ?_
          refine lv_istore (lv' := [(6, .int i245), (5, .int i234), (0, va_rf (some x0)), (1, va_rf x1), (2, va_rf x2), (3, va_rf x3), (4, .int x4)]) hx hb d_La_law_646 hl (by decide) (by simp [bw_cat, cat_i, cat_j]) (fun ls hl => ?_)
          refine lv_goto (tgt := 800) hx hb d_La_law_648 (by decide) ?_
          exact k_La_law_800 C hX hbl hK23 _ _ _ _ _ _ _ hq _ _ _ _ _ hW (lv_sub hl [2, 3, 4, 5, 6] rfl) hc hs
        · have hq := hq.2.2.2.2.2.2.2.2.2.2.2.2.2.1 c3
          refine lv_tableIn (tgt := 651) hx hb d_La_law_39 (by rw [c3]; decide) (by rw [c3]; decide) (by rw [c3]; rfl) (by decide) ?_
          refine bw_aload_n hx hb d_La_law_651 rfl (lv_at hl 1 rfl) ?_
          refine bw_aload_n hx hb d_La_law_652 rfl (lv_at hl 0 rfl) ?_
          refine lv_iload hx hb d_La_law_653 (lv_at hl 4 rfl) ?_
          refine lv_iconst (v := 1) hx hb d_La_law_655 (by decide) ?_
          refine lv_iadd hx hb d_La_law_656 ?_
          obtain ⟨h246, hq⟩ := hq
          refine va_sld hx hb hX hbl hbA hW.2.2 h246 d_La_law_657 ?_
          refine bw_aload_n hx hb d_La_law_658 rfl (lv_at hl 0 rfl) ?_
          refine lv_iload hx hb d_La_law_659 (lv_at hl 4 rfl) ?_
          refine lv_iconst (v := 2) hx hb d_La_law_661 (by decide) ?_
          refine lv_iadd hx hb d_La_law_662 ?_
          obtain ⟨h247, hq⟩ := hq
          refine va_sld hx hb hX hbl hbA hW.2.2 h247 d_La_law_663 ?_
          refine bw_aload_n hx hb d_La_law_664 rfl (lv_at hl 3 rfl) ?_
          obtain ⟨k250, k251, h252, h253, hq⟩ := hq
          refine bw_callSW (nA := 4) (hh := [(0, 10, 13, 21), (0, 10, 17, 13)]) (As := [va_rf x1, .int (xs (x4 + (1 : Int32)).toNatClampNeg), .int (xs (x4 + (2 : Int32)).toNatClampNeg), va_rf x3]) (rest := []) C hW m_688 m_0 m_686 m_687 (by decide) (by decide +kernel) d_La_law_665 rfl rfl hl.1 (by decide) ⟨Nat.le_of_ble_eq_true rfl, Nat.le_of_ble_eq_true rfl⟩ ⟨Nat.le_trans (Nat.add_le_add_left h252 _) hc, Nat.le_trans (Nat.add_le_add_left h253 _) hs⟩ (c_La_told hl0 _ _ _ _ _ _ _ hq) (fun v248 w249 H locs hv hW => ?_)
          obtain ⟨i254, rfl, hq⟩ := hv
          have hc := bw_bud hc h252
          have hs := bw_bud hs h253
          refine W.eq (g2 := F0 m 668 ls [.int i254]) rfl ?_
          refine lv_istore (lv' := [(5, .int i254), (0, va_rf (some x0)), (1, va_rf x1), (2, va_rf x2), (3, va_rf x3), (4, .int x4)]) hx hb d_La_law_668 hl (by decide) (by simp [bw_cat, cat_i, cat_j]) (fun ls hl => ?_)
          refine bw_aload_n hx hb d_La_law_670 rfl (lv_at hl 3 rfl) ?_
          refine bw_aload_n hx hb d_La_law_671 rfl (lv_at hl 1 rfl) ?_
          refine lv_iload hx hb d_La_law_672 (lv_at hl 5 rfl) ?_
          refine lv_iconst (v := 1) hx hb d_La_law_674 (by decide) ?_
          refine lv_iadd hx hb d_La_law_675 ?_
          obtain ⟨h255, hq⟩ := hq
          refine va_sld hx hb hX hbl hbA hW.2.2 h255 d_La_law_676 ?_
          refine bw_aload_n hx hb d_La_law_677 rfl (lv_at hl 1 rfl) ?_
          refine lv_iload hx hb d_La_law_678 (lv_at hl 5 rfl) ?_
          refine lv_iconst (v := 2) hx hb d_La_law_680 (by decide) ?_
          refine lv_iadd hx hb d_La_law_681 ?_
          obtain ⟨h256, hq⟩ := hq
          refine va_sld hx hb hX hbl hbA hW.2.2 h256 d_La_law_682 ?_
          obtain ⟨a257, ea257, hq⟩ := hq
          obtain ⟨t258, hq⟩ := hq
          refine bw_callV (As := [.int (xs (x4 + (1 : Int32)).toNatClampNeg), .int (xs (x4 + (2 : Int32)).toNatClampNeg)]) (rest := []) C hW ci_Mo_told m_957 m_958 m_959 d_La_law_683 ea257 t258 (by decide) rfl rfl rfl hl.1 (by decide) ⟨Nat.le_of_ble_eq_true rfl, Nat.le_of_ble_eq_true rfl⟩ ⟨Nat.le_trans (Nat.add_le_add_left (Nat.zero_le _) _) hc, Nat.le_trans (Nat.add_le_add_left (Nat.zero_le _) _) hs⟩ (c_Mo_told hl0 _ _ _ _ hq) (fun _ _ _ _ _ _ h => h.elim) (fun v259 w260 H locs hv hW => ?_)
          obtain ⟨i265, rfl, hq⟩ := hv
          have hc := bw_bud0 hc
          have hs := bw_bud0 hs
          refine W.eq (g2 := F0 m 686 ls [.int i265]) rfl ?_
          refine lv_istore (lv' := [(6, .int i265), (5, .int i254), (0, va_rf (some x0)), (1, va_rf x1), (2, va_rf x2), (3, va_rf x3), (4, .int x4)]) hx hb d_La_law_686 hl (by decide) (by simp [bw_cat, cat_i, cat_j]) (fun ls hl => ?_)
          refine lv_goto (tgt := 800) hx hb d_La_law_688 (by decide) ?_
          exact k_La_law_800 C hX hbl hK23 _ _ _ _ _ _ _ hq _ _ _ _ _ hW (lv_sub hl [2, 3, 4, 5, 6] rfl) hc hs
        · have hq := hq.2.2.2.2.2.2.2.2.2.2.2.2.2.2.1 c3
          refine lv_tableIn (tgt := 691) hx hb d_La_law_39 (by rw [c3]; decide) (by rw [c3]; decide) (by rw [c3]; rfl) (by decide) ?_
          refine bw_aload_n hx hb d_La_law_691 rfl (lv_at hl 1 rfl) ?_
          refine bw_aload_n hx hb d_La_law_692 rfl (lv_at hl 0 rfl) ?_
          refine lv_iload hx hb d_La_law_693 (lv_at hl 4 rfl) ?_
          refine lv_iconst (v := 1) hx hb d_La_law_695 (by decide) ?_
          refine lv_iadd hx hb d_La_law_696 ?_
          obtain ⟨h266, hq⟩ := hq
          refine va_sld hx hb hX hbl hbA hW.2.2 h266 d_La_law_697 ?_
          refine bw_aload_n hx hb d_La_law_698 rfl (lv_at hl 0 rfl) ?_
          refine lv_iload hx hb d_La_law_699 (lv_at hl 4 rfl) ?_
          refine lv_iconst (v := 2) hx hb d_La_law_701 (by decide) ?_
          refine lv_iadd hx hb d_La_law_702 ?_
          obtain ⟨h267, hq⟩ := hq
          refine va_sld hx hb hX hbl hbA hW.2.2 h267 d_La_law_703 ?_
          refine bw_aload_n hx hb d_La_law_704 rfl (lv_at hl 3 rfl) ?_
          obtain ⟨k270, k271, h272, h273, hq⟩ := hq
          refine bw_callSW (nA := 4) (hh := [(0, 10, 13, 21), (0, 10, 17, 13)]) (As := [va_rf x1, .int (xs (x4 + (1 : Int32)).toNatClampNeg), .int (xs (x4 + (2 : Int32)).toNatClampNeg), va_rf x3]) (rest := []) C hW m_696 m_0 m_694 m_695 (by decide) (by decide +kernel) d_La_law_705 rfl rfl hl.1 (by decide) ⟨Nat.le_of_ble_eq_true rfl, Nat.le_of_ble_eq_true rfl⟩ ⟨Nat.le_trans (Nat.add_le_add_left h272 _) hc, Nat.le_trans (Nat.add_le_add_left h273 _) hs⟩ (c_La_known hl0 _ _ _ _ _ _ _ hq) (fun v268 w269 H locs hv hW => ?_)
          obtain ⟨i274, rfl, hq⟩ := hv
          have hc := bw_bud hc h272
          have hs := bw_bud hs h273
          refine W.eq (g2 := F0 m 708 ls [.int i274]) rfl ?_
          refine lv_istore (lv' := [(5, .int i274), (0, va_rf (some x0)), (1, va_rf x1), (2, va_rf x2), (3, va_rf x3), (4, .int x4)]) hx hb d_La_law_708 hl (by decide) (by simp [bw_cat, cat_i, cat_j]) (fun ls hl => ?_)
          refine bw_aload_n hx hb d_La_law_710 rfl (lv_at hl 3 rfl) ?_
          refine bw_aload_n hx hb d_La_law_711 rfl (lv_at hl 1 rfl) ?_
          refine lv_iload hx hb d_La_law_712 (lv_at hl 5 rfl) ?_
          refine lv_iconst (v := 1) hx hb d_La_law_714 (by decide) ?_
          refine lv_iadd hx hb d_La_law_715 ?_
          obtain ⟨h275, hq⟩ := hq
          refine va_sld hx hb hX hbl hbA hW.2.2 h275 d_La_law_716 ?_
          refine bw_aload_n hx hb d_La_law_717 rfl (lv_at hl 1 rfl) ?_
          refine lv_iload hx hb d_La_law_718 (lv_at hl 5 rfl) ?_
          refine lv_iconst (v := 2) hx hb d_La_law_720 (by decide) ?_
          refine lv_iadd hx hb d_La_law_721 ?_
          obtain ⟨h276, hq⟩ := hq
          refine va_sld hx hb hX hbl hbA hW.2.2 h276 d_La_law_722 ?_
          obtain ⟨a277, ea277, hq⟩ := hq
          obtain ⟨t278, hq⟩ := hq
          refine bw_callV (As := [.int (xs (x4 + (1 : Int32)).toNatClampNeg), .int (xs (x4 + (2 : Int32)).toNatClampNeg)]) (rest := []) C hW ci_Mo_known m_961 m_962 m_963 d_La_law_723 ea277 t278 (by decide) rfl rfl rfl hl.1 (by decide) ⟨Nat.le_of_ble_eq_true rfl, Nat.le_of_ble_eq_true rfl⟩ ⟨Nat.le_trans (Nat.add_le_add_left (Nat.zero_le _) _) hc, Nat.le_trans (Nat.add_le_add_left (Nat.zero_le _) _) hs⟩ (c_Mo_known hl0 _ _ _ _ hq) (fun _ _ _ _ _ _ h => h.elim) (fun v279 w280 H locs hv hW => ?_)
          obtain ⟨i285, rfl, hq⟩ := hv
          have hc := bw_bud0 hc
          have hs := bw_bud0 hs
          refine W.eq (g2 := F0 m 726 ls [.int i285]) rfl ?_
          refine lv_istore (lv' := [(6, .int i285), (5, .int i274), (0, va_rf (some x0)), (1, va_rf x1), (2, va_rf x2), (3, va_rf x3), (4, .int x4)]) hx hb d_La_law_726 hl (by decide) (by simp [bw_cat, cat_i, cat_j]) (fun ls hl => ?_)
          refine lv_goto (tgt := 800) hx hb d_La_law_728 (by decide) ?_
          exact k_La_law_800 C hX hbl hK23 _ _ _ _ _ _ _ hq _ _ _ _ _ hW (lv_sub hl [2, 3, 4, 5, 6] rfl) hc hs
        · have hq := hq.2.2.2.2.2.2.2.2.2.2.2.2.2.2.2.1 c3
          refine lv_tableIn (tgt := 731) hx hb d_La_law_39 (by rw [c3]; decide) (by rw [c3]; decide) (by rw [c3]; rfl) (by decide) ?_
          refine bw_aload_n hx hb d_La_law_731 rfl (lv_at hl 1 rfl) ?_
          refine bw_aload_n hx hb d_La_law_732 rfl (lv_at hl 0 rfl) ?_
          refine lv_iload hx hb d_La_law_733 (lv_at hl 4 rfl) ?_
          refine lv_iconst (v := 1) hx hb d_La_law_735 (by decide) ?_
          refine lv_iadd hx hb d_La_law_736 ?_
          obtain ⟨h286, hq⟩ := hq
          refine va_sld hx hb hX hbl hbA hW.2.2 h286 d_La_law_737 ?_
          refine bw_aload_n hx hb d_La_law_738 rfl (lv_at hl 3 rfl) ?_
          obtain ⟨k289, k290, h291, h292, hq⟩ := hq
          refine bw_callSW (nA := 3) (hh := [(0, 9, 12, 21)]) (As := [va_rf x1, .int (xs (x4 + (1 : Int32)).toNatClampNeg), va_rf x3]) (rest := []) C hW m_708 m_0 m_706 m_707 (by decide) (by decide +kernel) d_La_law_739 rfl rfl hl.1 (by decide) ⟨Nat.le_of_ble_eq_true rfl, Nat.le_of_ble_eq_true rfl⟩ ⟨Nat.le_trans (Nat.add_le_add_left h291 _) hc, Nat.le_trans (Nat.add_le_add_left h292 _) hs⟩ (c_La_order hl0 _ _ _ _ _ _ hq) (fun v287 w288 H locs hv hW => ?_)
          obtain ⟨i293, rfl, hq⟩ := hv
          have hc := bw_bud hc h291
          have hs := bw_bud hs h292
          refine W.eq (g2 := F0 m 742 ls [.int i293]) rfl ?_
          refine lv_istore (lv' := [(5, .int i293), (0, va_rf (some x0)), (1, va_rf x1), (2, va_rf x2), (3, va_rf x3), (4, .int x4)]) hx hb d_La_law_742 hl (by decide) (by simp [bw_cat, cat_i, cat_j]) (fun ls hl => ?_)
          refine bw_aload_n hx hb d_La_law_744 rfl (lv_at hl 3 rfl) ?_
          refine bw_aload_n hx hb d_La_law_745 rfl (lv_at hl 1 rfl) ?_
          refine lv_iload hx hb d_La_law_746 (lv_at hl 5 rfl) ?_
          refine lv_iconst (v := 1) hx hb d_La_law_748 (by decide) ?_
          refine lv_iadd hx hb d_La_law_749 ?_
          obtain ⟨h294, hq⟩ := hq
          refine va_sld hx hb hX hbl hbA hW.2.2 h294 d_La_law_750 ?_
          obtain ⟨a295, ea295, hq⟩ := hq
          obtain ⟨t296, hq⟩ := hq
          refine bw_callV (As := [.int (xs (x4 + (1 : Int32)).toNatClampNeg)]) (rest := []) C hW ci_Mo_order m_965 m_966 m_967 d_La_law_751 ea295 t296 (by decide) rfl rfl rfl hl.1 (by decide) ⟨Nat.le_of_ble_eq_true rfl, Nat.le_of_ble_eq_true rfl⟩ ⟨Nat.le_trans (Nat.add_le_add_left (Nat.zero_le _) _) hc, Nat.le_trans (Nat.add_le_add_left (Nat.zero_le _) _) hs⟩ (c_Mo_order hl0 _ _ _ hq) (fun _ _ _ _ _ _ h => h.elim) (fun v297 w298 H locs hv hW => ?_)
          obtain ⟨i303, rfl, hq⟩ := hv
          have hc := bw_bud0 hc
          have hs := bw_bud0 hs
          refine W.eq (g2 := F0 m 754 ls [.int i303]) rfl ?_
          refine lv_istore (lv' := [(6, .int i303), (5, .int i293), (0, va_rf (some x0)), (1, va_rf x1), (2, va_rf x2), (3, va_rf x3), (4, .int x4)]) hx hb d_La_law_754 hl (by decide) (by simp [bw_cat, cat_i, cat_j]) (fun ls hl => ?_)
          refine lv_goto (tgt := 800) hx hb d_La_law_756 (by decide) ?_
          exact k_La_law_800 C hX hbl hK23 _ _ _ _ _ _ _ hq _ _ _ _ _ hW (lv_sub hl [2, 3, 4, 5, 6] rfl) hc hs
        · have hq := hq.2.2.2.2.2.2.2.2.2.2.2.2.2.2.2.2.1 c3
          refine lv_tableIn (tgt := 759) hx hb d_La_law_39 (by rw [c3]; decide) (by rw [c3]; decide) (by rw [c3]; rfl) (by decide) ?_
          refine bw_aload_n hx hb d_La_law_759 rfl (lv_at hl 1 rfl) ?_
          refine bw_aload_n hx hb d_La_law_760 rfl (lv_at hl 3 rfl) ?_
          obtain ⟨k306, k307, h308, h309, hq⟩ := hq
          refine bw_callSW (nA := 2) (hh := [(0, 8, 11, 75)]) (As := [va_rf x1, va_rf x3]) (rest := []) C hW m_716 m_0 m_714 m_715 (by decide) (by decide +kernel) d_La_law_761 rfl rfl hl.1 (by decide) ⟨Nat.le_of_ble_eq_true rfl, Nat.le_of_ble_eq_true rfl⟩ ⟨Nat.le_trans (Nat.add_le_add_left h308 _) hc, Nat.le_trans (Nat.add_le_add_left h309 _) hs⟩ (c_La_mean hl0 _ _ _ _ _ hq) (fun v304 w305 H locs hv hW => ?_)
          obtain ⟨i310, rfl, hq⟩ := hv
          have hc := bw_bud hc h308
          have hs := bw_bud hs h309
          refine W.eq (g2 := F0 m 764 ls [.int i310]) rfl ?_
          refine lv_istore (lv' := [(5, .int i310), (0, va_rf (some x0)), (1, va_rf x1), (2, va_rf x2), (3, va_rf x3), (4, .int x4)]) hx hb d_La_law_764 hl (by decide) (by simp [bw_cat, cat_i, cat_j]) (fun ls hl => ?_)
          refine bw_aload_n hx hb d_La_law_766 rfl (lv_at hl 3 rfl) ?_
          obtain ⟨a311, ea311, hq⟩ := hq
          obtain ⟨t312, hq⟩ := hq
          refine bw_callV (As := []) (rest := []) C hW ci_Mo_mean m_969 m_970 m_971 d_La_law_767 ea311 t312 (by decide) rfl rfl rfl hl.1 (by decide) ⟨Nat.le_of_ble_eq_true rfl, Nat.le_of_ble_eq_true rfl⟩ ⟨Nat.le_trans (Nat.add_le_add_left (Nat.zero_le _) _) hc, Nat.le_trans (Nat.add_le_add_left (Nat.zero_le _) _) hs⟩ (c_Mo_mean hl0 _ _ hq) (fun _ _ _ _ _ _ h => h.elim) (fun v313 w314 H locs hv hW => ?_)
          obtain ⟨i319, rfl, hq⟩ := hv
          have hc := bw_bud0 hc
          have hs := bw_bud0 hs
          refine W.eq (g2 := F0 m 770 ls [.int i319]) rfl ?_
          refine lv_istore (lv' := [(6, .int i319), (5, .int i310), (0, va_rf (some x0)), (1, va_rf x1), (2, va_rf x2), (3, va_rf x3), (4, .int x4)]) hx hb d_La_law_770 hl (by decide) (by simp [bw_cat, cat_i, cat_j]) (fun ls hl => ?_)
          refine lv_goto (tgt := 800) hx hb d_La_law_772 (by decide) ?_
          exact k_La_law_800 C hX hbl hK23 _ _ _ _ _ _ _ hq _ _ _ _ _ hW (lv_sub hl [2, 3, 4, 5, 6] rfl) hc hs
        · have hq := hq.2.2.2.2.2.2.2.2.2.2.2.2.2.2.2.2.2.1 c3
          refine lv_tableIn (tgt := 775) hx hb d_La_law_39 (by rw [c3]; decide) (by rw [c3]; decide) (by rw [c3]; rfl) (by decide) ?_
          refine bw_aload_n hx hb d_La_law_775 rfl (lv_at hl 1 rfl) ?_
          refine bw_aload_n hx hb d_La_law_776 rfl (lv_at hl 0 rfl) ?_
          refine lv_iload hx hb d_La_law_777 (lv_at hl 4 rfl) ?_
          refine lv_iconst (v := 1) hx hb d_La_law_779 (by decide) ?_
          refine lv_iadd hx hb d_La_law_780 ?_
          obtain ⟨h320, hq⟩ := hq
          refine va_sld hx hb hX hbl hbA hW.2.2 h320 d_La_law_781 ?_
          obtain ⟨a321, ea321, hq⟩ := hq
          obtain ⟨t322, hq⟩ := hq
          refine bw_callV (As := [.int (xs (x4 + (1 : Int32)).toNatClampNeg)]) (rest := []) C hW ci_Br_count m_87 m_88 m_89 d_La_law_782 ea321 t322 (by decide) rfl rfl rfl hl.1 (by decide) ⟨Nat.le_of_ble_eq_true rfl, Nat.le_of_ble_eq_true rfl⟩ ⟨Nat.le_trans (Nat.add_le_add_left (Nat.zero_le _) _) hc, Nat.le_trans (Nat.add_le_add_left (Nat.zero_le _) _) hs⟩ (c_Br_count hl0 _ _ _ hq) (fun _ _ _ _ _ _ h => h.elim) (fun v323 w324 H locs hv hW => ?_)
          obtain ⟨i329, rfl, hq⟩ := hv
          have hc := bw_bud0 hc
          have hs := bw_bud0 hs
          refine W.eq (g2 := F0 m 785 ls [.int i329]) rfl ?_
          refine bw_aload_n hx hb d_La_law_785 rfl (lv_at hl 2 rfl) ?_
          refine bw_aload_n hx hb d_La_law_786 rfl (lv_at hl 0 rfl) ?_
          refine lv_iload hx hb d_La_law_787 (lv_at hl 4 rfl) ?_
          refine lv_iconst (v := 1) hx hb d_La_law_789 (by decide) ?_
          refine lv_iadd hx hb d_La_law_790 ?_
          obtain ⟨h330, hq⟩ := hq
          refine va_sld hx hb hX hbl hbA hW.2.2 h330 d_La_law_791 ?_
          obtain ⟨a331, ea331, hq⟩ := hq
          obtain ⟨t332, hq⟩ := hq
          refine bw_callV (As := [.int (xs (x4 + (1 : Int32)).toNatClampNeg)]) (rest := [.int i329]) C hW ci_Mo_count m_973 m_974 m_975 d_La_law_792 ea331 t332 (by decide) rfl rfl rfl hl.1 (by simp [bw_cat, cat_i, cat_j]) ⟨Nat.le_of_ble_eq_true rfl, Nat.le_of_ble_eq_true rfl⟩ ⟨Nat.le_trans (Nat.add_le_add_left (Nat.zero_le _) _) hc, Nat.le_trans (Nat.add_le_add_left (Nat.zero_le _) _) hs⟩ (c_Mo_count hl0 _ _ _ hq) (fun _ _ _ _ _ _ h => h.elim) (fun v333 w334 H locs hv hW => ?_)
          obtain ⟨i339, rfl, hq⟩ := hv
          have hc := bw_bud0 hc
          have hs := bw_bud0 hs
          refine W.eq (g2 := F0 m 795 ls [.int i339, .int i329]) rfl ?_
          refine lv_icmp_eq (tgt := 800) hx hb d_La_law_795 (by decide) (fun c340 => ?_) (fun c340 => ?_)
          · have hq := hq.1 c340
            exact k_La_law_800 C hX hbl hK23 _ _ _ _ _ _ _ hq _ _ _ _ _ hW (lv_sub hl [0, 1, 2, 3, 4] rfl) hc hs
          · have hq := hq.2 c340
            refine lv_iconst (v := 0) hx hb d_La_law_798 (by decide) ?_
            exact hq.elim
def wp_La_law (e0 mi : Nat) (w : Wd) (nc ns : Nat) (L : Nat) (xs : Nat → Int32) : Prop :=
  1 ≤ nc ∧ 9 ≤ ns ∧ ∀ q1 : Nat, q1 ∉ wL w → ∀ w5 : Wd, w5 = bw_new w q1 5 0 → (∃ k9 k10 : Nat, k9 ≤ (nc - 1) ∧ k10 ≤ (ns - 9) ∧ wp_Br_init e0 mi q1 w5 k9 k10 (fun w8 => 1 ≤ ((nc - 1) - k9) ∧ 32 ≤ ((ns - 9) - k10) ∧ ∀ q14 : Nat, q14 ∉ wL w8 → ∀ w18 : Wd, w18 = bw_new w8 q14 6 0 → (∃ k22 k23 : Nat, k22 ≤ (((nc - 1) - k9) - 1) ∧ k23 ≤ (((ns - 9) - k10) - 32) ∧ wp_Mo_init e0 mi q14 w18 k22 k23 (fun w21 => ¬ (1 : Int32) < 0 ∧ (1 : Int32).toNatClampNeg * 8 ≤ 536870912 ∧ 1 ≤ ((((nc - 1) - k9) - 1) - k22) ∧ (1 : Int32).toNatClampNeg ≤ ((((ns - 9) - k10) - 32) - k23) ∧ ∀ q27 : Nat, q27 ∉ wL w21 → ∀ w33 : Wd, w33 = bw_new w21 q27 102 (1 : Int32).toNatClampNeg → (∃ n35 : Nat, wb_La_law_23 e0 mi L xs n35 (some q1) (some q14) (some q27) (0 : Int32) w33 (((((nc - 1) - k9) - 1) - k22) - 1) (((((ns - 9) - k10) - 32) - k23) - (1 : Int32).toNatClampNeg))))))
set_option maxHeartbeats 4000000 in
set_option maxRecDepth 100000 in
theorem k_La_law_0 {p : Program} {l : Launch} {e : Env} {s : State} {m : MethodId} {below : List Frame} {meth : Method} {c : Code} {D : va_G} {AC : Nat → ClassId} {e0 mi : Nat} {x0 L : Nat} {xs : Nat → Int32} (C : Cx p l s m #[Value.ref x0] meth c D AC e0 mi (fun q : Nat => s.heap.size ≤ q) n_La_law b_La_law 7 (some .boolean)) (hX : va_X x0 L xs s s.heap) (hbl : x0 < s.heap.size) (w : Wd) (nc ns : Nat) (hq : wp_La_law e0 mi  w nc ns L xs) : ∀ (H : Heap) (locs : List Loc) (cells slots : Nat) (ls : Array Slot), HW D cls8 FTc AC (fun q : Nat => s.heap.size ≤ q) s.heap H locs w → lv_has ls 7 [(0, va_rf (some x0))] → cells + nc ≤ 601024 → slots + ns ≤ 7293034 → W p l e room_1 s m #[Value.ref x0] below meth c H locs cells slots (lw_Z below #[Value.ref x0] s) (F0 m 0 ls []) := by
  obtain ⟨hl0, hx, hb, hr, ht, hown, hlocks, hnm, hml, hex, hK, hA, hZ, hV⟩ := id C
  have hbA : ¬ (fun q : Nat => s.heap.size ≤ q) x0 := Nat.not_le.mpr hbl
  intro H locs cells slots ls hW hl hc hs
  unfold wp_La_law at hq
  obtain ⟨h2, h3, hq⟩ := hq
  refine bw_mk (ci := 5) hx hb ht in_Br y_Br yk_Br hown (ht _ m_25) (ht _ m_26) (ht _ m_1) hK hW hA (by decide) (by rfl) df_Br (Nat.le_trans (Nat.add_le_add_left h2 _) hc) (Nat.le_trans (Nat.add_le_add_left h3 _) hs) d_La_law_0 (fun q1 H n4 hW => ?_)
  obtain ⟨w5, ew5⟩ : ∃ z : Wd, z = bw_new w q1 5 0 := ⟨_, rfl⟩
  rw [← ew5] at hW
  have hq := hq q1 n4 w5 ew5
  have hc := bw_bud hc h2
  have hs := bw_bud hs h3
  have t6 : bw_is w5 q1 5 := by rw [ew5]; exact bw_is_self _ _ _ _
  refine lv_dup hx hb d_La_law_3 (bw_cat _) ?_
  obtain ⟨k9, k10, h11, h12, hq⟩ := hq
  refine bw_callI (As := []) (rest := [va_rf (some q1)]) C hW ci_Br_init rfl m_27 m_28 d_La_law_4 rfl rfl hl.1 (by simp [bw_cat, cat_i, cat_j]) ⟨Nat.le_of_ble_eq_true rfl, Nat.le_of_ble_eq_true rfl⟩ ⟨Nat.le_trans (Nat.add_le_add_left h11 _) hc, Nat.le_trans (Nat.add_le_add_left h12 _) hs⟩ (c_Br_init hl0 _ _ _ _ hq) (fun v7 w8 H locs hv hW => ?_)
  obtain ⟨rfl, hq⟩ := hv
  have hc := bw_bud hc h11
  have hs := bw_bud hs h12
  refine W.eq (g2 := F0 m 7 ls [va_rf (some q1)]) rfl ?_
  refine bw_astore_n (i := 1) (lv' := [(1, va_rf (some q1)), (0, va_rf (some x0))]) hx hb d_La_law_7 rfl hl (by decide) (by simp [bw_cat, cat_i, cat_j]) (fun ls hl => ?_)
  obtain ⟨h15, h16, hq⟩ := hq
  refine bw_mk (ci := 6) hx hb ht in_Mo y_Mo yk_Mo hown (ht _ m_738) (ht _ m_739) (ht _ m_5) hK hW hA (by decide) (by rfl) df_Mo (Nat.le_trans (Nat.add_le_add_left h15 _) hc) (Nat.le_trans (Nat.add_le_add_left h16 _) hs) d_La_law_8 (fun q14 H n17 hW => ?_)
  obtain ⟨w18, ew18⟩ : ∃ z : Wd, z = bw_new w8 q14 6 0 := ⟨_, rfl⟩
  rw [← ew18] at hW
  have hq := hq q14 n17 w18 ew18
  have hc := bw_bud hc h15
  have hs := bw_bud hs h16
  have t19 : bw_is w18 q14 6 := by rw [ew18]; exact bw_is_self _ _ _ _
  refine lv_dup hx hb d_La_law_11 (bw_cat _) ?_
  obtain ⟨k22, k23, h24, h25, hq⟩ := hq
  refine bw_callI (As := []) (rest := [va_rf (some q14)]) C hW ci_Mo_init rfl m_740 m_741 d_La_law_12 rfl rfl hl.1 (by simp [bw_cat, cat_i, cat_j]) ⟨Nat.le_of_ble_eq_true rfl, Nat.le_of_ble_eq_true rfl⟩ ⟨Nat.le_trans (Nat.add_le_add_left h24 _) hc, Nat.le_trans (Nat.add_le_add_left h25 _) hs⟩ (c_Mo_init hl0 _ _ _ _ hq) (fun v20 w21 H locs hv hW => ?_)
  obtain ⟨rfl, hq⟩ := hv
  have hc := bw_bud hc h24
  have hs := bw_bud hs h25
  refine W.eq (g2 := F0 m 15 ls [va_rf (some q14)]) rfl ?_
  refine bw_astore_n (i := 2) (lv' := [(2, va_rf (some q14)), (1, va_rf (some q1)), (0, va_rf (some x0))]) hx hb d_La_law_15 rfl hl (by decide) (by simp [bw_cat, cat_i, cat_j]) (fun ls hl => ?_)
  refine lv_iconst (v := 1) hx hb d_La_law_16 (by decide) ?_
  obtain ⟨h28, h31, h29, h30, hq⟩ := hq
  refine bw_newJ C hW m_843 h28 h31 (Nat.le_trans (Nat.add_le_add_left h29 _) hc) (Nat.le_trans (Nat.add_le_add_left h30 _) hs) d_La_law_17 (fun q27 H n32 hW => ?_)
  obtain ⟨w33, ew33⟩ : ∃ z : Wd, z = bw_new w21 q27 102 (1 : Int32).toNatClampNeg := ⟨_, rfl⟩
  rw [← ew33] at hW
  have hq := hq q27 n32 w33 ew33
  have hc := bw_bud hc h29
  have hs := bw_bud hs h30
  have t34 : bw_is w33 q27 102 := by rw [ew33]; exact bw_is_self _ _ _ _
  refine bw_astore_n (i := 3) (lv' := [(3, va_rf (some q27)), (2, va_rf (some q14)), (1, va_rf (some q1)), (0, va_rf (some x0))]) hx hb d_La_law_19 rfl hl (by decide) (by simp [bw_cat, cat_i, cat_j]) (fun ls hl => ?_)
  refine lv_iconst (v := 0) hx hb d_La_law_20 (by decide) ?_
  refine lv_istore (lv' := [(4, .int (0 : Int32)), (3, va_rf (some q27)), (2, va_rf (some q14)), (1, va_rf (some q1)), (0, va_rf (some x0))]) hx hb d_La_law_21 hl (by decide) (by simp [bw_cat, cat_i, cat_j]) (fun ls hl => ?_)
  obtain ⟨n35, hq⟩ := hq
  exact k_La_law_23 C hX hbl  n35 _ _ _ _ _ _ _ hq _ _ _ _ _ hW (lv_sub hl [4, 3, 2, 1, 0] rfl) hc hs

