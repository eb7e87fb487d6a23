/-! printed by wip/gen/walk.py out of the bytecode: Br_missingToRoom Br_itemsOnBelts Br_waysTo Br_count Br_giverTo Br_tell Br_tellReads Br_letOut Br_passOnTo Br_noteReads Br_moveItems Br_passSecond Br_init -/
def wb_Br_missingToRoom_27 (e0 mi : Nat) (Q : Int32 → Wd → Prop) (x0 : Nat) (x1 : Option Nat) (z0 : Int32) (w : Wd) : Prop :=
  Q z0 w
set_option maxHeartbeats 4000000 in
set_option maxRecDepth 100000 in
theorem k_Br_missingToRoom_27 {p : Program} {l : Launch} {e : Env} {s : State} {m : MethodId} {args : Array Value} {below : List Frame} {meth : Method} {c : Code} {D : va_G} {AC : Nat → ClassId} {e0 mi : Nat} {A : Nat → Prop} {mc ms : Nat} {Q : Int32 → Wd → Prop} (C : Cx p l s m args meth c D AC e0 mi A n_Br_missingToRoom b_Br_missingToRoom 2 (some .int)) (x0 : Nat) (x1 : Option Nat) (z0 : Int32) (w : Wd) (hq : wb_Br_missingToRoom_27 e0 mi Q x0 x1 z0 w) : ∀ (H : Heap) (locs : List Loc) (cells slots : Nat) (ls : Array Slot), HW D cls8 FTc AC A s.heap H locs w → lv_has ls 2 [(0, va_rf (some x0)), (1, va_rf x1)] → cells ≤ mc → slots ≤ ms → W p l e { frames := 1, cells := mc, slots := ms, locals := 40 } s m args below meth c H locs cells slots (vx_MQ below (QQ D AC A (fun v w9 => ∃ r9 : Int32, v = some (.int r9) ∧ Q r9 w9)) (XX D AC A (fun _ _ => False)) args s mc ms A) (F0 m 27 ls [.int z0]) := by
  obtain ⟨hl0, hx, hb, hr, ht, hown, hlocks, hnm, hml, hex, hK, hA, hZ, hV⟩ := id C
  intro H locs cells slots ls hW hl hc hs
  unfold wb_Br_missingToRoom_27 at hq
  exact bw_iret C hW ⟨_, rfl, hq⟩ d_Br_missingToRoom_27 hc hs
def wp_Br_missingToRoom (e0 mi : Nat) (x0 : Nat) (x1 : Option Nat) (w : Wd) (Q : Int32 → Wd → Prop) : Prop :=
  ∃ a1 : Nat, x1 = some a1 ∧ (bw_is w a1 0 ∧ ((¬ (wR w a1 5) = none → (bw_is w x0 5 ∧ (∃ a5 : Nat, (wR w a1 5) = some a5 ∧ (bw_is w a5 2 ∧ (wp_It_rear e0 mi a5 w (fun i13 w8 => ∀ i14 : Int32, i14 = (if (0 : Int32) < ((wI w x0 6) - i13) then ((wI w x0 6) - i13) else (0 : Int32)) → (wb_Br_missingToRoom_27 e0 mi Q x0 x1 i14 w8))))))) ∧ ((wR w a1 5) = none → (wb_Br_missingToRoom_27 e0 mi Q x0 x1 (0 : Int32) w))))
set_option maxHeartbeats 4000000 in
set_option maxRecDepth 100000 in
theorem k_Br_missingToRoom_0 {p : Program} {l : Launch} {e : Env} {s : State} {m : MethodId} {args : Array Value} {below : List Frame} {meth : Method} {c : Code} {D : va_G} {AC : Nat → ClassId} {e0 mi : Nat} {A : Nat → Prop} {mc ms : Nat} {Q : Int32 → Wd → Prop} (C : Cx p l s m args meth c D AC e0 mi A n_Br_missingToRoom b_Br_missingToRoom 2 (some .int)) (x0 : Nat) (x1 : Option Nat) (w : Wd) (hq : wp_Br_missingToRoom e0 mi x0 x1 w Q) : ∀ (H : Heap) (locs : List Loc) (cells slots : Nat) (ls : Array Slot), HW D cls8 FTc AC A s.heap H locs w → lv_has ls 2 [(0, va_rf (some x0)), (1, va_rf x1)] → cells ≤ mc → slots ≤ ms → W p l e { frames := 1, cells := mc, slots := ms, locals := 40 } s m args below meth c H locs cells slots (vx_MQ below (QQ D AC A (fun v w9 => ∃ r9 : Int32, v = some (.int r9) ∧ Q r9 w9)) (XX D AC A (fun _ _ => False)) args s mc ms A) (F0 m 0 ls []) := by
  obtain ⟨hl0, hx, hb, hr, ht, hown, hlocks, hnm, hml, hex, hK, hA, hZ, hV⟩ := id C
  intro H locs cells slots ls hW hl hc hs
  unfold wp_Br_missingToRoom at hq
  refine bw_aload_n hx hb d_Br_missingToRoom_0 rfl (lv_at hl 1 rfl) ?_
  obtain ⟨a1, ea1, hq⟩ := hq
  obtain ⟨t2, hq⟩ := hq
  refine bw_getR hx hb ht in_Bt hown hK hW ea1 t2 (by decide) rfl 5 (by decide) rfl (ht _ m_250) (fun _ h => h) d_Br_missingToRoom_1 ?_
  refine bw_ifnonnull (tgt := 11) hx hb d_Br_missingToRoom_4 (by decide) (fun c3 => ?_) (fun c3 => ?_)
  · have hq := hq.1 c3
    refine lv_iconst (v := 0) hx hb d_Br_missingToRoom_11 (by decide) ?_
    refine bw_aload_n hx hb d_Br_missingToRoom_12 rfl (lv_at hl 0 rfl) ?_
    obtain ⟨t4, hq⟩ := hq
    refine bw_getI hx hb ht in_Br hown hK hW rfl t4 (by decide) rfl 6 (by decide) rfl (ht _ m_65) (fun _ h => h) d_Br_missingToRoom_13 ?_
    refine bw_aload_n hx hb d_Br_missingToRoom_16 rfl (lv_at hl 1 rfl) ?_
    refine bw_getR hx hb ht in_Bt hown hK hW ea1 t2 (by decide) rfl 5 (by decide) rfl (ht _ m_250) (fun _ h => h) d_Br_missingToRoom_17 ?_
    obtain ⟨a5, ea5, hq⟩ := hq
    obtain ⟨t6, hq⟩ := hq
    refine bw_callV (As := []) (rest := [.int (wI w x0 6), .int (0 : Int32)]) C hW ci_It_rear m_432 m_433 m_434 d_Br_missingToRoom_20 ea5 t6 (by decide) rfl rfl rfl hl.1 (by simp [bw_cat, cat_i, cat_j]) ⟨Nat.le_of_ble_eq_true rfl, Nat.le_of_ble_eq_true rfl⟩ ⟨hc, hs⟩ (c_It_rear hl0 _ _ hq) (fun _ _ _ _ _ _ h => h.elim) (fun v7 w8 H locs hv hW => ?_)
    obtain ⟨i13, rfl, hq⟩ := hv
    refine W.eq (g2 := F0 m 23 ls [.int i13, .int (wI w x0 6), .int (0 : Int32)]) rfl ?_
    refine lv_isub hx hb d_Br_missingToRoom_23 ?_
    refine va_mmax hx hb (by rw [hml]; exact hl.1.symm) hown (ht _ m_436) (ht _ m_294) (ht _ m_14) (ht _ m_295) (Nat.le_of_ble_eq_true rfl) (by exact Nat.le_of_ble_eq_true rfl) hc hs d_Br_missingToRoom_24 ?_
    refine lv_topi (fun i14 ei14 => ?_)
    have hq := hq i14 ei14
    exact k_Br_missingToRoom_27 C  _ _ _ _ hq _ _ _ _ _ hW (lv_sub hl [0, 1] rfl) hc hs
  · have hq := hq.2 c3
    refine lv_iconst (v := 0) hx hb d_Br_missingToRoom_7 (by decide) ?_
    refine lv_goto (tgt := 27) hx hb d_Br_missingToRoom_8 (by decide) ?_
    exact k_Br_missingToRoom_27 C  _ _ _ _ hq _ _ _ _ _ hW (lv_sub hl [0, 1] rfl) hc hs
theorem ci_Br_missingToRoom : CI n_Br_missingToRoom b_Br_missingToRoom 2 (some .int) 1 := ⟨m_431, m_1, by decide, by decide, by decide +kernel⟩
theorem sel_Br_missingToRoom : Cond.selects "BeltRows" n_Br_missingToRoom n_Br_missingToRoom ∈ TBL := List.mem_filter.mpr ⟨List.mem_append_left _ (List.mem_map.mpr ⟨(n_Br_missingToRoom, 9), by decide +kernel, rfl⟩), rfl⟩
theorem c_Br_missingToRoom {l : Launch} {D : va_G} {AC : Nat → ClassId} {e0 mi : Nat} {Q : Int32 → Wd → Prop} (hl0 : l.stackTraces = false) (x0 : Nat) (x1 : Option Nat) (w : Wd) (hq : wp_Br_missingToRoom e0 mi x0 x1 w Q) : Ct l D AC e0 mi n_Br_missingToRoom (wy n_Br_missingToRoom b_Br_missingToRoom 2 (some .int)) 1 40 [va_rf (some x0), va_rf x1] w 0 0 (fun v w9 => ∃ r9 : Int32, v = some (.int r9) ∧ Q r9 w9) (fun _ _ => False) :=
  Ct.of hl0 (by decide) (by simp [lg_sl, bw_cat, cat_i, cat_j]) (fun p e s m args below meth c A ls C hW hl => k_Br_missingToRoom_0 C x0 x1 w hq s.heap [] 0 0 ls hW (by simpa [lv_args, bw_cat, cat_i, cat_j] using hl) (Nat.le_refl _) (Nat.le_refl _))
def wb_Br_itemsOnBelts_4 (e0 mi : Nat) (Q : Int32 → Wd → Prop) : Nat → Nat → Int32 → Int32 → Wd → Prop
  | 0, _, _, _, _ => False
  | n + 1, x0, x1, x2, w => bw_is w x0 5 ∧ (∃ a2 : Nat, (wR w x0 0) = some a2 ∧ (bw_is w a2 7 ∧ (wp_Al_size e0 mi a2 w (fun i10 w5 => (i10 ≤ x2 → (Q x1 w5)) ∧ (¬ i10 ≤ x2 → (bw_is w5 x0 5 ∧ (∃ a13 : Nat, (wR w5 x0 0) = some a13 ∧ (bw_is w5 a13 7 ∧ (wp_Al_get e0 mi a13 x2 w5 (fun r21 w16 => (∀ a23, r21 = some a23 → bw_is w16 a23 0) ∧ (∃ a24 : Nat, r21 = some a24 ∧ (bw_is w16 a24 0 ∧ (∀ i26 : Int32, i26 = x1 + (wI w16 a24 6) → (∀ i27 : Int32, i27 = x2 + 1 → ((wb_Br_itemsOnBelts_4 e0 mi Q n) x0 i26 i27 w16)))))))))))))))
set_option maxHeartbeats 4000000 in
set_option maxRecDepth 100000 in
theorem k_Br_itemsOnBelts_4 {p : Program} {l : Launch} {e : Env} {s : State} {m : MethodId} {args : Array Value} {below : List Frame} {meth : Method} {c : Code} {D : va_G} {AC : Nat → ClassId} {e0 mi : Nat} {A : Nat → Prop} {mc ms : Nat} {Q : Int32 → Wd → Prop} (C : Cx p l s m args meth c D AC e0 mi A n_Br_itemsOnBelts b_Br_itemsOnBelts 3 (some .int)) : ∀ (n : Nat) (x0 : Nat) (x1 : Int32) (x2 : Int32) (w : Wd), wb_Br_itemsOnBelts_4 e0 mi Q n x0 x1 x2 w → ∀ (H : Heap) (locs : List Loc) (cells slots : Nat) (ls : Array Slot), HW D cls8 FTc AC A s.heap H locs w → lv_has ls 3 [(0, va_rf (some x0)), (1, .int x1), (2, .int x2)] → cells ≤ mc → slots ≤ ms → W p l e { frames := 3, cells := mc, slots := ms, locals := 64 } s m args below meth c H locs cells slots (vx_MQ below (QQ D AC A (fun v w9 => ∃ r9 : Int32, v = some (.int r9) ∧ Q r9 w9)) (XX D AC A (fun _ _ => False)) args s mc ms A) (F0 m 4 ls []) := by
  obtain ⟨hl0, hx, hb, hr, ht, hown, hlocks, hnm, hml, hex, hK, hA, hZ, hV⟩ := id C
  intro n
  induction n with
  | zero =>
    intro x0 x1 x2 w hq
    exact hq.elim
  | succ n ih =>
    intro x0 x1 x2 w hq H locs cells slots ls hW hl hc hs
    have hK4 := ih
    unfold wb_Br_itemsOnBelts_4 at hq
    refine lv_iload_n hx hb d_Br_itemsOnBelts_4 rfl (lv_at hl 2 rfl) ?_
    refine bw_aload_n hx hb d_Br_itemsOnBelts_5 rfl (lv_at hl 0 rfl) ?_
    obtain ⟨t1, hq⟩ := hq
    refine bw_getR hx hb ht in_Br hown hK hW rfl t1 (by decide) rfl 0 (by decide) rfl (ht _ m_59) (fun _ h => h) d_Br_itemsOnBelts_6 ?_
    obtain ⟨a2, ea2, hq⟩ := hq
    obtain ⟨t3, hq⟩ := hq
    refine bw_callV (As := []) (rest := [.int x2]) C hW ci_Al_size m_91 m_92 m_93 d_Br_itemsOnBelts_9 ea2 t3 (by decide) rfl rfl rfl hl.1 (by simp [bw_cat, cat_i, cat_j]) ⟨Nat.le_of_ble_eq_true rfl, Nat.le_of_ble_eq_true rfl⟩ ⟨hc, hs⟩ (c_Al_size hl0 _ _ hq) (fun _ _ _ _ _ _ h => h.elim) (fun v4 w5 H locs hv hW => ?_)
    obtain ⟨i10, rfl, hq⟩ := hv
    refine W.eq (g2 := F0 m 12 ls [.int i10, .int x2]) rfl ?_
    refine lv_icmp_ge (tgt := 38) hx hb d_Br_itemsOnBelts_12 (by decide) (fun c11 => ?_) (fun c11 => ?_)
    · have hq := hq.1 c11
      refine lv_iload_n hx hb d_Br_itemsOnBelts_38 rfl (lv_at hl 1 rfl) ?_
      exact bw_iret C hW ⟨_, rfl, hq⟩ d_Br_itemsOnBelts_39 hc hs
    · have hq := hq.2 c11
      refine lv_iload_n hx hb d_Br_itemsOnBelts_15 rfl (lv_at hl 1 rfl) ?_
      refine bw_aload_n hx hb d_Br_itemsOnBelts_16 rfl (lv_at hl 0 rfl) ?_
      obtain ⟨t12, hq⟩ := hq
      refine bw_getR hx hb ht in_Br hown hK hW rfl t12 (by decide) rfl 0 (by decide) rfl (ht _ m_59) (fun _ h => h) d_Br_itemsOnBelts_17 ?_
      refine lv_iload_n hx hb d_Br_itemsOnBelts_20 rfl (lv_at hl 2 rfl) ?_
      obtain ⟨a13, ea13, hq⟩ := hq
      obtain ⟨t14, hq⟩ := hq
      refine bw_callV (As := [.int x2]) (rest := [.int x1]) C hW ci_Al_get m_99 m_100 m_101 d_Br_itemsOnBelts_21 ea13 t14 (by decide) rfl rfl rfl hl.1 (by simp [bw_cat, cat_i, cat_j]) ⟨Nat.le_of_ble_eq_true rfl, Nat.le_of_ble_eq_true rfl⟩ ⟨hc, hs⟩ (c_Al_get hl0 _ _ _ hq) (fun _ _ _ _ _ _ h => h.elim) (fun v15 w16 H locs hv hW => ?_)
      obtain ⟨r21, rfl, hq⟩ := hv
      refine W.eq (g2 := F0 m 24 ls [va_rf r21, .int x1]) rfl ?_
      obtain ⟨h22, hq⟩ := hq
      refine bw_cast C hW m_113 (cn := 0) rfl (by decide) (by decide +kernel) h22 d_Br_itemsOnBelts_24 ?_
      obtain ⟨a24, ea24, hq⟩ := hq
      obtain ⟨t25, hq⟩ := hq
      refine bw_getI hx hb ht in_Bt hown hK hW ea24 t25 (by decide) rfl 6 (by decide) rfl (ht _ m_252) (fun _ h => h) d_Br_itemsOnBelts_27 ?_
      refine lv_iadd hx hb d_Br_itemsOnBelts_30 ?_
      refine lv_topi (fun i26 ei26 => ?_)
      have hq := hq i26 ei26
      refine lv_istore_n (i := 1) (lv' := [(1, .int i26), (0, va_rf (some x0)), (2, .int x2)]) hx hb d_Br_itemsOnBelts_31 rfl hl (by decide) (by simp [bw_cat, cat_i, cat_j]) (fun ls hl => ?_)
      obtain ⟨i27, ei27⟩ : ∃ y : Int32, y = x2 + 1 := ⟨_, rfl⟩
      have hq := hq i27 ei27
      refine lv_iinc (v := i27) (lv' := [(2, .int i27), (1, .int i26), (0, va_rf (some x0))]) hx hb d_Br_itemsOnBelts_32 hl (k := 2) rfl (by rw [ei27]; rfl) (by decide) (by simp [bw_cat, cat_i, cat_j]) (fun ls hl => ?_)
      refine lv_goto (tgt := 4) hx hb d_Br_itemsOnBelts_35 (by decide) ?_
      exact hK4 _ _ _ _ hq _ _ _ _ _ hW (lv_sub hl [2, 1, 0] rfl) hc hs
def wp_Br_itemsOnBelts (e0 mi : Nat) (x0 : Nat) (w : Wd) (Q : Int32 → Wd → Prop) : Prop :=
  ∃ n1 : Nat, wb_Br_itemsOnBelts_4 e0 mi Q n1 x0 (0 : Int32) (0 : Int32) w
set_option maxHeartbeats 4000000 in
set_option maxRecDepth 100000 in
theorem k_Br_itemsOnBelts_0 {p : Program} {l : Launch} {e : Env} {s : State} {m : MethodId} {args : Array Value} {below : List Frame} {meth : Method} {c : Code} {D : va_G} {AC : Nat → ClassId} {e0 mi : Nat} {A : Nat → Prop} {mc ms : Nat} {Q : Int32 → Wd → Prop} (C : Cx p l s m args meth c D AC e0 mi A n_Br_itemsOnBelts b_Br_itemsOnBelts 3 (some .int)) (x0 : Nat) (w : Wd) (hq : wp_Br_itemsOnBelts e0 mi x0 w Q) : ∀ (H : Heap) (locs : List Loc) (cells slots : Nat) (ls : Array Slot), HW D cls8 FTc AC A s.heap H locs w → lv_has ls 3 [(0, va_rf (some x0))] → cells ≤ mc → slots ≤ ms → W p l e { frames := 3, cells := mc, slots := ms, locals := 64 } s m args below meth c H locs cells slots (vx_MQ below (QQ D AC A (fun v w9 => ∃ r9 : Int32, v = some (.int r9) ∧ Q r9 w9)) (XX D AC A (fun _ _ => False)) args s mc ms A) (F0 m 0 ls []) := by
  obtain ⟨hl0, hx, hb, hr, ht, hown, hlocks, hnm, hml, hex, hK, hA, hZ, hV⟩ := id C
  intro H locs cells slots ls hW hl hc hs
  unfold wp_Br_itemsOnBelts at hq
  refine lv_iconst (v := 0) hx hb d_Br_itemsOnBelts_0 (by decide) ?_
  refine lv_istore_n (i := 1) (lv' := [(1, .int (0 : Int32)), (0, va_rf (some x0))]) hx hb d_Br_itemsOnBelts_1 rfl hl (by decide) (by simp [bw_cat, cat_i, cat_j]) (fun ls hl => ?_)
  refine lv_iconst (v := 0) hx hb d_Br_itemsOnBelts_2 (by decide) ?_
  refine lv_istore_n (i := 2) (lv' := [(2, .int (0 : Int32)), (1, .int (0 : Int32)), (0, va_rf (some x0))]) hx hb d_Br_itemsOnBelts_3 rfl hl (by decide) (by simp [bw_cat, cat_i, cat_j]) (fun ls hl => ?_)
  obtain ⟨n1, hq⟩ := hq
  exact k_Br_itemsOnBelts_4 C  n1 _ _ _ _ hq _ _ _ _ _ hW (lv_sub hl [2, 1, 0] rfl) hc hs
theorem ci_Br_itemsOnBelts : CI n_Br_itemsOnBelts b_Br_itemsOnBelts 3 (some .int) 0 := ⟨m_98, m_1, by decide, by decide, by decide +kernel⟩
theorem sel_Br_itemsOnBelts : Cond.selects "BeltRows" n_Br_itemsOnBelts n_Br_itemsOnBelts ∈ TBL := List.mem_filter.mpr ⟨List.mem_append_left _ (List.mem_map.mpr ⟨(n_Br_itemsOnBelts, 9), by decide +kernel, rfl⟩), rfl⟩
theorem c_Br_itemsOnBelts {l : Launch} {D : va_G} {AC : Nat → ClassId} {e0 mi : Nat} {Q : Int32 → Wd → Prop} (hl0 : l.stackTraces = false) (x0 : Nat) (w : Wd) (hq : wp_Br_itemsOnBelts e0 mi x0 w Q) : Ct l D AC e0 mi n_Br_itemsOnBelts (wy n_Br_itemsOnBelts b_Br_itemsOnBelts 3 (some .int)) 3 64 [va_rf (some x0)] w 0 0 (fun v w9 => ∃ r9 : Int32, v = some (.int r9) ∧ Q r9 w9) (fun _ _ => False) :=
  Ct.of hl0 (by decide) (by simp [lg_sl, bw_cat, cat_i, cat_j]) (fun p e s m args below meth c A ls C hW hl => k_Br_itemsOnBelts_0 C x0 w hq s.heap [] 0 0 ls hW (by simpa [lv_args, bw_cat, cat_i, cat_j] using hl) (Nat.le_refl _) (Nat.le_refl _))
def wb_Br_waysTo_68 (e0 mi : Nat) (K4 : Nat → Option Nat → Int32 → Int32 → Wd → Prop) (Q : Int32 → Wd → Prop) (x0 : Nat) (x1 : Option Nat) (x2 : Int32) (x3 : Int32) (x4 : Option Nat) (z0 : Int32) (z1 : Int32) (w : Wd) : Prop :=
  ∀ i1 : Int32, i1 = z0 + z1 → (∀ i2 : Int32, i2 = x3 + 1 → (K4 x0 x1 i1 i2 w))
set_option maxHeartbeats 4000000 in
set_option maxRecDepth 100000 in
theorem k_Br_waysTo_68 {p : Program} {l : Launch} {e : Env} {s : State} {m : MethodId} {args : Array Value} {below : List Frame} {meth : Method} {c : Code} {D : va_G} {AC : Nat → ClassId} {e0 mi : Nat} {A : Nat → Prop} {mc ms : Nat} {K4 : Nat → Option Nat → Int32 → Int32 → Wd → Prop} {Q : Int32 → Wd → Prop} (C : Cx p l s m args meth c D AC e0 mi A n_Br_waysTo b_Br_waysTo 5 (some .int)) (hK4 : ∀ (x0 : Nat) (x1 : Option Nat) (x2 : Int32) (x3 : Int32) (w : Wd), K4 x0 x1 x2 x3 w → ∀ (H : Heap) (locs : List Loc) (cells slots : Nat) (ls : Array Slot), HW D cls8 FTc AC A s.heap H locs w → lv_has ls 5 [(0, va_rf (some x0)), (1, va_rf x1), (2, .int x2), (3, .int x3)] → cells ≤ mc → slots ≤ ms → W p l e { frames := 3, cells := mc, slots := ms, locals := 64 } s m args below meth c H locs cells slots (vx_MQ below (QQ D AC A (fun v w9 => ∃ r9 : Int32, v = some (.int r9) ∧ Q r9 w9)) (XX D AC A (fun _ _ => False)) args s mc ms A) (F0 m 4 ls [])) (x0 : Nat) (x1 : Option Nat) (x2 : Int32) (x3 : Int32) (x4 : Option Nat) (z0 : Int32) (z1 : Int32) (w : Wd) (hq : wb_Br_waysTo_68 e0 mi K4 Q x0 x1 x2 x3 x4 z0 z1 w) : ∀ (H : Heap) (locs : List Loc) (cells slots : Nat) (ls : Array Slot), HW D cls8 FTc AC A s.heap H locs w → lv_has ls 5 [(0, va_rf (some x0)), (1, va_rf x1), (2, .int x2), (3, .int x3), (4, va_rf x4)] → cells ≤ mc → slots ≤ ms → W p l e { frames := 3, cells := mc, slots := ms, locals := 64 } s m args below meth c H locs cells slots (vx_MQ below (QQ D AC A (fun v w9 => ∃ r9 : Int32, v = some (.int r9) ∧ Q r9 w9)) (XX D AC A (fun _ _ => False)) args s mc ms A) (F0 m 68 ls [.int z1, .int z0]) := by
  obtain ⟨hl0, hx, hb, hr, ht, hown, hlocks, hnm, hml, hex, hK, hA, hZ, hV⟩ := id C
  intro H locs cells slots ls hW hl hc hs
  unfold wb_Br_waysTo_68 at hq
  refine lv_iadd hx hb d_Br_waysTo_68 ?_
  refine lv_topi (fun i1 ei1 => ?_)
  have hq := hq i1 ei1
  refine lv_istore_n (i := 2) (lv' := [(2, .int i1), (0, va_rf (some x0)), (1, va_rf x1), (3, .int x3), (4, va_rf x4)]) hx hb d_Br_waysTo_69 rfl hl (by decide) (by simp [bw_cat, cat_i, cat_j]) (fun ls hl => ?_)
  obtain ⟨i2, ei2⟩ : ∃ y : Int32, y = x3 + 1 := ⟨_, rfl⟩
  have hq := hq i2 ei2
  refine lv_iinc (v := i2) (lv' := [(3, .int i2), (2, .int i1), (0, va_rf (some x0)), (1, va_rf x1), (4, va_rf x4)]) hx hb d_Br_waysTo_70 hl (k := 3) rfl (by rw [ei2]; rfl) (by decide) (by simp [bw_cat, cat_i, cat_j]) (fun ls hl => ?_)
  refine lv_goto (tgt := 4) hx hb d_Br_waysTo_73 (by decide) ?_
  exact hK4 _ _ _ _ _ hq _ _ _ _ _ hW (lv_sub hl [2, 3, 1, 0] rfl) hc hs
def wb_Br_waysTo_47 (e0 mi : Nat) (K4 : Nat → Option Nat → Int32 → Int32 → Wd → Prop) (Q : Int32 → Wd → Prop) (x0 : Nat) (x1 : Option Nat) (x2 : Int32) (x3 : Int32) (x4 : Option Nat) (z0 : Int32) (z1 : Int32) (w : Wd) : Prop :=
  ∀ i1 : Int32, i1 = z0 + z1 → (∃ a2 : Nat, x4 = some a2 ∧ (bw_is w a2 0 ∧ (wp_Bt_wayNumbered e0 mi a2 (1 : Int32) w (fun r10 w5 => ∃ a11 : Nat, r10 = some a11 ∧ (bw_is w5 a11 4 ∧ ((¬ (wR w5 a11 0) = x1 → (wb_Br_waysTo_68 e0 mi K4 Q x0 x1 i1 x3 x4 i1 (0 : Int32) w5)) ∧ ((wR w5 a11 0) = x1 → (wb_Br_waysTo_68 e0 mi K4 Q x0 x1 i1 x3 x4 i1 (1 : Int32) w5))))))))
set_option maxHeartbeats 4000000 in
set_option maxRecDepth 100000 in
theorem k_Br_waysTo_47 {p : Program} {l : Launch} {e : Env} {s : State} {m : MethodId} {args : Array Value} {below : List Frame} {meth : Method} {c : Code} {D : va_G} {AC : Nat → ClassId} {e0 mi : Nat} {A : Nat → Prop} {mc ms : Nat} {K4 : Nat → Option Nat → Int32 → Int32 → Wd → Prop} {Q : Int32 → Wd → Prop} (C : Cx p l s m args meth c D AC e0 mi A n_Br_waysTo b_Br_waysTo 5 (some .int)) (hK4 : ∀ (x0 : Nat) (x1 : Option Nat) (x2 : Int32) (x3 : Int32) (w : Wd), K4 x0 x1 x2 x3 w → ∀ (H : Heap) (locs : List Loc) (cells slots : Nat) (ls : Array Slot), HW D cls8 FTc AC A s.heap H locs w → lv_has ls 5 [(0, va_rf (some x0)), (1, va_rf x1), (2, .int x2), (3, .int x3)] → cells ≤ mc → slots ≤ ms → W p l e { frames := 3, cells := mc, slots := ms, locals := 64 } s m args below meth c H locs cells slots (vx_MQ below (QQ D AC A (fun v w9 => ∃ r9 : Int32, v = some (.int r9) ∧ Q r9 w9)) (XX D AC A (fun _ _ => False)) args s mc ms A) (F0 m 4 ls [])) (x0 : Nat) (x1 : Option Nat) (x2 : Int32) (x3 : Int32) (x4 : Option Nat) (z0 : Int32) (z1 : Int32) (w : Wd) (hq : wb_Br_waysTo_47 e0 mi K4 Q x0 x1 x2 x3 x4 z0 z1 w) : ∀ (H : Heap) (locs : List Loc) (cells slots : Nat) (ls : Array Slot), HW D cls8 FTc AC A s.heap H locs w → lv_has ls 5 [(0, va_rf (some x0)), (1, va_rf x1), (2, .int x2), (3, .int x3), (4, va_rf x4)] → cells ≤ mc → slots ≤ ms → W p l e { frames := 3, cells := mc, slots := ms, locals := 64 } s m args below meth c H locs cells slots (vx_MQ below (QQ D AC A (fun v w9 => ∃ r9 : Int32, v = some (.int r9) ∧ Q r9 w9)) (XX D AC A (fun _ _ => False)) args s mc ms A) (F0 m 47 ls [.int z1, .int z0]) := by
  obtain ⟨hl0, hx, hb, hr, ht, hown, hlocks, hnm, hml, hex, hK, hA, hZ, hV⟩ := id C
  intro H locs cells slots ls hW hl hc hs
  unfold wb_Br_waysTo_47 at hq
  refine lv_iadd hx hb d_Br_waysTo_47 ?_
  refine lv_topi (fun i1 ei1 => ?_)
  have hq := hq i1 ei1
  refine lv_istore_n (i := 2) (lv' := [(2, .int i1), (0, va_rf (some x0)), (1, va_rf x1), (3, .int x3), (4, va_rf x4)]) hx hb d_Br_waysTo_48 rfl hl (by decide) (by simp [bw_cat, cat_i, cat_j]) (fun ls hl => ?_)
  refine lv_iload_n hx hb d_Br_waysTo_49 rfl (lv_at hl 0 rfl) ?_
  refine bw_aload hx hb d_Br_waysTo_50 (lv_at hl 4 rfl) ?_
  refine lv_iconst (v := 1) hx hb d_Br_waysTo_52 (by decide) ?_
  obtain ⟨a2, ea2, hq⟩ := hq
  obtain ⟨t3, hq⟩ := hq
  refine bw_callV (As := [.int (1 : Int32)]) (rest := [.int i1]) C hW ci_Bt_wayNumbered m_363 m_364 m_365 d_Br_waysTo_53 ea2 t3 (by decide) rfl rfl rfl hl.1 (by simp [bw_cat, cat_i, cat_j]) ⟨Nat.le_of_ble_eq_true rfl, Nat.le_of_ble_eq_true rfl⟩ ⟨hc, hs⟩ (c_Bt_wayNumbered hl0 _ _ _ hq) (fun _ _ _ _ _ _ h => h.elim) (fun v4 w5 H locs hv hW => ?_)
  obtain ⟨r10, rfl, hq⟩ := hv
  refine W.eq (g2 := F0 m 56 ls [va_rf r10, .int i1]) rfl ?_
  obtain ⟨a11, ea11, hq⟩ := hq
  obtain ⟨t12, hq⟩ := hq
  refine bw_getR hx hb ht in_Wy hown hK hW ea11 t12 (by decide) rfl 0 (by decide) rfl (ht _ m_225) (fun _ h => h) d_Br_waysTo_56 ?_
  refine bw_aload_n hx hb d_Br_waysTo_59 rfl (lv_at hl 2 rfl) ?_
  refine lv_acmp_ne (tgt := 67) hx hb d_Br_waysTo_60 (by decide) (fun c13 => ?_) (fun c13 => ?_)
  · have hq := hq.1 c13
    refine lv_iconst (v := 0) hx hb d_Br_waysTo_67 (by decide) ?_
    exact k_Br_waysTo_68 C hK4 _ _ _ _ _ _ _ _ hq _ _ _ _ _ hW (lv_sub hl [1, 2, 0, 3, 4] rfl) hc hs
  · have hq := hq.2 c13
    refine lv_iconst (v := 1) hx hb d_Br_waysTo_63 (by decide) ?_
    refine lv_goto (tgt := 68) hx hb d_Br_waysTo_64 (by decide) ?_
    exact k_Br_waysTo_68 C hK4 _ _ _ _ _ _ _ _ hq _ _ _ _ _ hW (lv_sub hl [1, 2, 0, 3, 4] rfl) hc hs
def wb_Br_waysTo_4 (e0 mi : Nat) (Q : Int32 → Wd → Prop) : Nat → Nat → Option Nat → Int32 → Int32 → Wd → Prop
  | 0, _, _, _, _, _ => False
  | n + 1, x0, x1, x2, x3, w => bw_is w x0 5 ∧ (∃ a2 : Nat, (wR w x0 0) = some a2 ∧ (bw_is w a2 7 ∧ (wp_Al_size e0 mi a2 w (fun i10 w5 => (i10 ≤ x3 → (Q x2 w5)) ∧ (¬ i10 ≤ x3 → (bw_is w5 x0 5 ∧ (∃ a13 : Nat, (wR w5 x0 0) = some a13 ∧ (bw_is w5 a13 7 ∧ (wp_Al_get e0 mi a13 x3 w5 (fun r21 w16 => (∀ a23, r21 = some a23 → bw_is w16 a23 0) ∧ (∃ a24 : Nat, r21 = some a24 ∧ (bw_is w16 a24 0 ∧ (wp_Bt_wayNumbered e0 mi a24 (0 : Int32) w16 (fun r32 w27 => ∃ a33 : Nat, r32 = some a33 ∧ (bw_is w27 a33 4 ∧ ((¬ (wR w27 a33 0) = x1 → (wb_Br_waysTo_47 e0 mi (wb_Br_waysTo_4 e0 mi Q n) Q x0 x1 x2 x3 r21 x2 (0 : Int32) w27)) ∧ ((wR w27 a33 0) = x1 → (wb_Br_waysTo_47 e0 mi (wb_Br_waysTo_4 e0 mi Q n) Q x0 x1 x2 x3 r21 x2 (1 : Int32) w27))))))))))))))))))
set_option maxHeartbeats 4000000 in
set_option maxRecDepth 100000 in
theorem k_Br_waysTo_4 {p : Program} {l : Launch} {e : Env} {s : State} {m : MethodId} {args : Array Value} {below : List Frame} {meth : Method} {c : Code} {D : va_G} {AC : Nat → ClassId} {e0 mi : Nat} {A : Nat → Prop} {mc ms : Nat} {Q : Int32 → Wd → Prop} (C : Cx p l s m args meth c D AC e0 mi A n_Br_waysTo b_Br_waysTo 5 (some .int)) : ∀ (n : Nat) (x0 : Nat) (x1 : Option Nat) (x2 : Int32) (x3 : Int32) (w : Wd), wb_Br_waysTo_4 e0 mi Q n x0 x1 x2 x3 w → ∀ (H : Heap) (locs : List Loc) (cells slots : Nat) (ls : Array Slot), HW D cls8 FTc AC A s.heap H locs w → lv_has ls 5 [(0, va_rf (some x0)), (1, va_rf x1), (2, .int x2), (3, .int x3)] → cells ≤ mc → slots ≤ ms → W p l e { frames := 3, cells := mc, slots := ms, locals := 64 } s m args below meth c H locs cells slots (vx_MQ below (QQ D AC A (fun v w9 => ∃ r9 : Int32, v = some (.int r9) ∧ Q r9 w9)) (XX D AC A (fun _ _ => False)) args s mc ms A) (F0 m 4 ls []) := by
  obtain ⟨hl0, hx, hb, hr, ht, hown, hlocks, hnm, hml, hex, hK, hA, hZ, hV⟩ := id C
  intro n
  induction n with
  | zero =>
    intro x0 x1 x2 x3 w hq
    exact hq.elim
  | succ n ih =>
    intro x0 x1 x2 x3 w hq H locs cells slots ls hW hl hc hs
    have hK4 := ih
    unfold wb_Br_waysTo_4 at hq
    refine lv_iload_n hx hb d_Br_waysTo_4 rfl (lv_at hl 3 rfl) ?_
    refine bw_aload_n hx hb d_Br_waysTo_5 rfl (lv_at hl 0 rfl) ?_
    obtain ⟨t1, hq⟩ := hq
    refine bw_getR hx hb ht in_Br hown hK hW rfl t1 (by decide) rfl 0 (by decide) rfl (ht _ m_59) (fun _ h => h) d_Br_waysTo_6 ?_
    obtain ⟨a2, ea2, hq⟩ := hq
    obtain ⟨t3, hq⟩ := hq
    refine bw_callV (As := []) (rest := [.int x3]) C hW ci_Al_size m_91 m_92 m_93 d_Br_waysTo_9 ea2 t3 (by decide) rfl rfl rfl hl.1 (by simp [bw_cat, cat_i, cat_j]) ⟨Nat.le_of_ble_eq_true rfl, Nat.le_of_ble_eq_true rfl⟩ ⟨hc, hs⟩ (c_Al_size hl0 _ _ hq) (fun _ _ _ _ _ _ h => h.elim) (fun v4 w5 H locs hv hW => ?_)
    obtain ⟨i10, rfl, hq⟩ := hv
    refine W.eq (g2 := F0 m 12 ls [.int i10, .int x3]) rfl ?_
    refine lv_icmp_ge (tgt := 76) hx hb d_Br_waysTo_12 (by decide) (fun c11 => ?_) (fun c11 => ?_)
    · have hq := hq.1 c11
      refine lv_iload_n hx hb d_Br_waysTo_76 rfl (lv_at hl 2 rfl) ?_
      exact bw_iret C hW ⟨_, rfl, hq⟩ d_Br_waysTo_77 hc hs
    · have hq := hq.2 c11
      refine bw_aload_n hx hb d_Br_waysTo_15 rfl (lv_at hl 0 rfl) ?_
      obtain ⟨t12, hq⟩ := hq
      refine bw_getR hx hb ht in_Br hown hK hW rfl t12 (by decide) rfl 0 (by decide) rfl (ht _ m_59) (fun _ h => h) d_Br_waysTo_16 ?_
      refine lv_iload_n hx hb d_Br_waysTo_19 rfl (lv_at hl 3 rfl) ?_
      obtain ⟨a13, ea13, hq⟩ := hq
      obtain ⟨t14, hq⟩ := hq
      refine bw_callV (As := [.int x3]) (rest := []) C hW ci_Al_get m_99 m_100 m_101 d_Br_waysTo_20 ea13 t14 (by decide) rfl rfl rfl hl.1 (by decide) ⟨Nat.le_of_ble_eq_true rfl, Nat.le_of_ble_eq_true rfl⟩ ⟨hc, hs⟩ (c_Al_get hl0 _ _ _ hq) (fun _ _ _ _ _ _ h => h.elim) (fun v15 w16 H locs hv hW => ?_)
      obtain ⟨r21, rfl, hq⟩ := hv
      refine W.eq (g2 := F0 m 23 ls [va_rf r21]) rfl ?_
      obtain ⟨h22, hq⟩ := hq
      refine bw_cast C hW m_113 (cn := 0) rfl (by decide) (by decide +kernel) h22 d_Br_waysTo_23 ?_
      refine bw_astore (lv' := [(4, va_rf r21), (0, va_rf (some x0)), (1, va_rf x1), (2, .int x2), (3, .int x3)]) hx hb d_Br_waysTo_26 hl (by decide) (by simp [bw_cat, cat_i, cat_j]) (fun ls hl => ?_)
      refine lv_iload_n hx hb d_Br_waysTo_28 rfl (lv_at hl 3 rfl) ?_
      refine bw_aload hx hb d_Br_waysTo_29 (lv_at hl 0 rfl) ?_
      refine lv_iconst (v := 0) hx hb d_Br_waysTo_31 (by decide) ?_
      obtain ⟨a24, ea24, hq⟩ := hq
      obtain ⟨t25, hq⟩ := hq
      refine bw_callV (As := [.int (0 : Int32)]) (rest := [.int x2]) C hW ci_Bt_wayNumbered m_363 m_364 m_365 d_Br_waysTo_32 ea24 t25 (by decide) rfl rfl rfl hl.1 (by simp [bw_cat, cat_i, cat_j]) ⟨Nat.le_of_ble_eq_true rfl, Nat.le_of_ble_eq_true rfl⟩ ⟨hc, hs⟩ (c_Bt_wayNumbered hl0 _ _ _ hq) (fun _ _ _ _ _ _ h => h.elim) (fun v26 w27 H locs hv hW => ?_)
      obtain ⟨r32, rfl, hq⟩ := hv
      refine W.eq (g2 := F0 m 35 ls [va_rf r32, .int x2]) rfl ?_
      obtain ⟨a33, ea33, hq⟩ := hq
      obtain ⟨t34, hq⟩ := hq
      refine bw_getR hx hb ht in_Wy hown hK hW ea33 t34 (by decide) rfl 0 (by decide) rfl (ht _ m_225) (fun _ h => h) d_Br_waysTo_35 ?_
      refine bw_aload_n hx hb d_Br_waysTo_38 rfl (lv_at hl 2 rfl) ?_
      refine lv_acmp_ne (tgt := 46) hx hb d_Br_waysTo_39 (by decide) (fun c35 => ?_) (fun c35 => ?_)
      · have hq := hq.1 c35
        refine lv_iconst (v := 0) hx hb d_Br_waysTo_46 (by decide) ?_
        exact k_Br_waysTo_47 C hK4 _ _ _ _ _ _ _ _ hq _ _ _ _ _ hW (lv_sub hl [1, 2, 3, 4, 0] rfl) hc hs
      · have hq := hq.2 c35
        refine lv_iconst (v := 1) hx hb d_Br_waysTo_42 (by decide) ?_
        refine lv_goto (tgt := 47) hx hb d_Br_waysTo_43 (by decide) ?_
        exact k_Br_waysTo_47 C hK4 _ _ _ _ _ _ _ _ hq _ _ _ _ _ hW (lv_sub hl [1, 2, 3, 4, 0] rfl) hc hs
def wp_Br_waysTo (e0 mi : Nat) (x0 : Nat) (x1 : Option Nat) (w : Wd) (Q : Int32 → Wd → Prop) : Prop :=
  ∃ n1 : Nat, wb_Br_waysTo_4 e0 mi Q n1 x0 x1 (0 : Int32) (0 : Int32) w
set_option maxHeartbeats 4000000 in
set_option maxRecDepth 100000 in
theorem k_Br_waysTo_0 {p : Program} {l : Launch} {e : Env} {s : State} {m : MethodId} {args : Array Value} {below : List Frame} {meth : Method} {c : Code} {D : va_G} {AC : Nat → ClassId} {e0 mi : Nat} {A : Nat → Prop} {mc ms : Nat} {Q : Int32 → Wd → Prop} (C : Cx p l s m args meth c D AC e0 mi A n_Br_waysTo b_Br_waysTo 5 (some .int)) (x0 : Nat) (x1 : Option Nat) (w : Wd) (hq : wp_Br_waysTo e0 mi x0 x1 w Q) : ∀ (H : Heap) (locs : List Loc) (cells slots : Nat) (ls : Array Slot), HW D cls8 FTc AC A s.heap H locs w → lv_has ls 5 [(0, va_rf (some x0)), (1, va_rf x1)] → cells ≤ mc → slots ≤ ms → W p l e { frames := 3, cells := mc, slots := ms, locals := 64 } s m args below meth c H locs cells slots (vx_MQ below (QQ D AC A (fun v w9 => ∃ r9 : Int32, v = some (.int r9) ∧ Q r9 w9)) (XX D AC A (fun _ _ => False)) args s mc ms A) (F0 m 0 ls []) := by
  obtain ⟨hl0, hx, hb, hr, ht, hown, hlocks, hnm, hml, hex, hK, hA, hZ, hV⟩ := id C
  intro H locs cells slots ls hW hl hc hs
  unfold wp_Br_waysTo at hq
  refine lv_iconst (v := 0) hx hb d_Br_waysTo_0 (by decide) ?_
  refine lv_istore_n (i := 2) (lv' := [(2, .int (0 : Int32)), (0, va_rf (some x0)), (1, va_rf x1)]) hx hb d_Br_waysTo_1 rfl hl (by decide) (by simp [bw_cat, cat_i, cat_j]) (fun ls hl => ?_)
  refine lv_iconst (v := 0) hx hb d_Br_waysTo_2 (by decide) ?_
  refine lv_istore_n (i := 3) (lv' := [(3, .int (0 : Int32)), (2, .int (0 : Int32)), (0, va_rf (some x0)), (1, va_rf x1)]) hx hb d_Br_waysTo_3 rfl hl (by decide) (by simp [bw_cat, cat_i, cat_j]) (fun ls hl => ?_)
  obtain ⟨n1, hq⟩ := hq
  exact k_Br_waysTo_4 C  n1 _ _ _ _ _ hq _ _ _ _ _ hW (lv_sub hl [2, 3, 1, 0] rfl) hc hs
theorem ci_Br_waysTo : CI n_Br_waysTo b_Br_waysTo 5 (some .int) 1 := ⟨m_374, m_1, by decide, by decide, by decide +kernel⟩
theorem sel_Br_waysTo : Cond.selects "BeltRows" n_Br_waysTo n_Br_waysTo ∈ TBL := List.mem_filter.mpr ⟨List.mem_append_left _ (List.mem_map.mpr ⟨(n_Br_waysTo, 9), by decide +kernel, rfl⟩), rfl⟩
theorem c_Br_waysTo {l : Launch} {D : va_G} {AC : Nat → ClassId} {e0 mi : Nat} {Q : Int32 → Wd → Prop} (hl0 : l.stackTraces = false) (x0 : Nat) (x1 : Option Nat) (w : Wd) (hq : wp_Br_waysTo e0 mi x0 x1 w Q) : Ct l D AC e0 mi n_Br_waysTo (wy n_Br_waysTo b_Br_waysTo 5 (some .int)) 3 64 [va_rf (some x0), va_rf x1] w 0 0 (fun v w9 => ∃ r9 : Int32, v = some (.int r9) ∧ Q r9 w9) (fun _ _ => False) :=
  Ct.of hl0 (by decide) (by simp [lg_sl, bw_cat, cat_i, cat_j]) (fun p e s m args below meth c A ls C hW hl => k_Br_waysTo_0 C x0 x1 w hq s.heap [] 0 0 ls hW (by simpa [lv_args, bw_cat, cat_i, cat_j] using hl) (Nat.le_refl _) (Nat.le_refl _))
def wp_Br_count (e0 mi : Nat) (x0 : Nat) (x1 : Int32) (w : Wd) (Q : Int32 → Wd → Prop) : Prop :=
  (x1 = 0 → (bw_is w x0 5 ∧ (∃ a3 : Nat, (wR w x0 0) = some a3 ∧ (bw_is w a3 7 ∧ (wp_Al_size e0 mi a3 w (fun i11 w6 => Q i11 w6)))))) ∧ (x1 = 1 → (bw_is w x0 5 ∧ (∃ a13 : Nat, (wR w x0 1) = some a13 ∧ (bw_is w a13 7 ∧ (wp_Al_size e0 mi a13 w (fun i21 w16 => Q i21 w16)))))) ∧ (x1 = 2 → (bw_is w x0 5 ∧ (wp_Br_itemsOnBelts e0 mi x0 w (fun i29 w24 => Q i29 w24)))) ∧ (x1 = 3 → (bw_is w x0 5 ∧ (∃ a31 : Nat, (wR w x0 5) = some a31 ∧ (bw_is w a31 7 ∧ (wp_Al_size e0 mi a31 w (fun i39 w34 => Q i39 w34)))))) ∧ (x1 = 4 → (bw_is w x0 5 ∧ (∃ a41 : Nat, (wR w x0 3) = some a41 ∧ (bw_is w a41 7 ∧ (wp_Al_size e0 mi a41 w (fun i49 w44 => Q i49 w44)))))) ∧ (x1 = 5 → (bw_is w x0 5 ∧ (Q (wI w x0 7) w))) ∧ (x1 = 6 → (bw_is w x0 5 ∧ (∃ a52 : Nat, (wR w x0 2) = some a52 ∧ (bw_is w a52 7 ∧ (wp_Al_size e0 mi a52 w (fun i60 w55 => Q i60 w55)))))) ∧ (x1 = 7 → (bw_is w x0 5 ∧ (∃ a62 : Nat, (wR w x0 4) = some a62 ∧ (bw_is w a62 7 ∧ (wp_Al_size e0 mi a62 w (fun i70 w65 => Q i70 w65)))))) ∧ ((x1.toInt < 0 ∨ 7 < x1.toInt) → (Q (-1 : Int32) w))
set_option maxHeartbeats 4000000 in
set_option maxRecDepth 100000 in
theorem k_Br_count_0 {p : Program} {l : Launch} {e : Env} {s : State} {m : MethodId} {args : Array Value} {below : List Frame} {meth : Method} {c : Code} {D : va_G} {AC : Nat → ClassId} {e0 mi : Nat} {A : Nat → Prop} {mc ms : Nat} {Q : Int32 → Wd → Prop} (C : Cx p l s m args meth c D AC e0 mi A n_Br_count b_Br_count 2 (some .int)) (x0 : Nat) (x1 : Int32) (w : Wd) (hq : wp_Br_count e0 mi x0 x1 w Q) : ∀ (H : Heap) (locs : List Loc) (cells slots : Nat) (ls : Array Slot), HW D cls8 FTc AC A s.heap H locs w → lv_has ls 2 [(0, va_rf (some x0)), (1, .int x1)] → cells ≤ mc → slots ≤ ms → W p l e { frames := 4, cells := mc, slots := ms, locals := 86 } s m args below meth c H locs cells slots (vx_MQ below (QQ D AC A (fun v w9 => ∃ r9 : Int32, v = some (.int r9) ∧ Q r9 w9)) (XX D AC A (fun _ _ => False)) args s mc ms A) (F0 m 0 ls []) := by
  obtain ⟨hl0, hx, hb, hr, ht, hown, hlocks, hnm, hml, hex, hK, hA, hZ, hV⟩ := id C
  intro H locs cells slots ls hW hl hc hs
  unfold wp_Br_count at hq
  refine lv_iload_n hx hb d_Br_count_0 rfl (lv_at hl 1 rfl) ?_
  by_cases c1 : x1.toInt < 0 ∨ 7 < x1.toInt
  · have hq := hq.2.2.2.2.2.2.2.2 c1
    refine lv_tableOut (tgt := 106) hx hb d_Br_count_1 c1 (by decide) ?_
    refine lv_iconst (v := (-1)) hx hb d_Br_count_106 (by decide) ?_
    exact bw_iret C hW ⟨_, rfl, hq⟩ d_Br_count_107 hc hs
  · have c12 : x1 = 0 ∨ x1 = 1 ∨ x1 = 2 ∨ x1 = 3 ∨ x1 = 4 ∨ x1 = 5 ∨ x1 = 6 ∨ x1 = 7 := bw_sw8 c1
    rcases c12 with c1 | c1 | c1 | c1 | c1 | c1 | c1 | c1
    · have hq := hq.1 c1
      refine lv_tableIn (tgt := 48) hx hb d_Br_count_1 (by rw [c1]; decide) (by rw [c1]; decide) (by rw [c1]; rfl) (by decide) ?_
      refine bw_aload_n hx hb d_Br_count_48 rfl (lv_at hl 0 rfl) ?_
      obtain ⟨t2, hq⟩ := hq
      refine bw_getR hx hb ht in_Br hown hK hW rfl t2 (by decide) rfl 0 (by decide) rfl (ht _ m_59) (fun _ h => h) d_Br_count_49 ?_
      obtain ⟨a3, ea3, hq⟩ := hq
      obtain ⟨t4, hq⟩ := hq
      refine bw_callV (As := []) (rest := []) C hW ci_Al_size m_91 m_92 m_93 d_Br_count_52 ea3 t4 (by decide) rfl rfl rfl hl.1 (by decide) ⟨Nat.le_of_ble_eq_true rfl, Nat.le_of_ble_eq_true rfl⟩ ⟨hc, hs⟩ (c_Al_size hl0 _ _ hq) (fun _ _ _ _ _ _ h => h.elim) (fun v5 w6 H locs hv hW => ?_)
      obtain ⟨i11, rfl, hq⟩ := hv
      refine W.eq (g2 := F0 m 55 ls [.int i11]) rfl ?_
      exact bw_iret C hW ⟨_, rfl, hq⟩ d_Br_count_55 hc hs
    · have hq := hq.2.1 c1
      refine lv_tableIn (tgt := 56) hx hb d_Br_count_1 (by rw [c1]; decide) (by rw [c1]; decide) (by rw [c1]; rfl) (by decide) ?_
      refine bw_aload_n hx hb d_Br_count_56 rfl (lv_at hl 0 rfl) ?_
      obtain ⟨t12, hq⟩ := hq
      refine bw_getR hx hb ht in_Br hown hK hW rfl t12 (by decide) rfl 1 (by decide) rfl (ht _ m_60) (fun _ h => h) d_Br_count_57 ?_
      obtain ⟨a13, ea13, hq⟩ := hq
      obtain ⟨t14, hq⟩ := hq
      refine bw_callV (As := []) (rest := []) C hW ci_Al_size m_91 m_92 m_93 d_Br_count_60 ea13 t14 (by decide) rfl rfl rfl hl.1 (by decide) ⟨Nat.le_of_ble_eq_true rfl, Nat.le_of_ble_eq_true rfl⟩ ⟨hc, hs⟩ (c_Al_size hl0 _ _ hq) (fun _ _ _ _ _ _ h => h.elim) (fun v15 w16 H locs hv hW => ?_)
      obtain ⟨i21, rfl, hq⟩ := hv
      refine W.eq (g2 := F0 m 63 ls [.int i21]) rfl ?_
      exact bw_iret C hW ⟨_, rfl, hq⟩ d_Br_count_63 hc hs
    · have hq := hq.2.2.1 c1
      refine lv_tableIn (tgt := 64) hx hb d_Br_count_1 (by rw [c1]; decide) (by rw [c1]; decide) (by rw [c1]; rfl) (by decide) ?_
      refine bw_aload_n hx hb d_Br_count_64 rfl (lv_at hl 0 rfl) ?_
      obtain ⟨t22, hq⟩ := hq
      refine bw_callV (As := []) (rest := []) C hW ci_Br_itemsOnBelts m_95 m_97 sel_Br_itemsOnBelts d_Br_count_65 rfl t22 (by decide) rfl rfl rfl hl.1 (by decide) ⟨Nat.le_of_ble_eq_true rfl, Nat.le_of_ble_eq_true rfl⟩ ⟨hc, hs⟩ (c_Br_itemsOnBelts hl0 _ _ hq) (fun _ _ _ _ _ _ h => h.elim) (fun v23 w24 H locs hv hW => ?_)
      obtain ⟨i29, rfl, hq⟩ := hv
      refine W.eq (g2 := F0 m 68 ls [.int i29]) rfl ?_
      exact bw_iret C hW ⟨_, rfl, hq⟩ d_Br_count_68 hc hs
    · have hq := hq.2.2.2.1 c1
      refine lv_tableIn (tgt := 69) hx hb d_Br_count_1 (by rw [c1]; decide) (by rw [c1]; decide) (by rw [c1]; rfl) (by decide) ?_
      refine bw_aload_n hx hb d_Br_count_69 rfl (lv_at hl 0 rfl) ?_
      obtain ⟨t30, hq⟩ := hq
      refine bw_getR hx hb ht in_Br hown hK hW rfl t30 (by decide) rfl 5 (by decide) rfl (ht _ m_64) (fun _ h => h) d_Br_count_70 ?_
      obtain ⟨a31, ea31, hq⟩ := hq
      obtain ⟨t32, hq⟩ := hq
      refine bw_callV (As := []) (rest := []) C hW ci_Al_size m_91 m_92 m_93 d_Br_count_73 ea31 t32 (by decide) rfl rfl rfl hl.1 (by decide) ⟨Nat.le_of_ble_eq_true rfl, Nat.le_of_ble_eq_true rfl⟩ ⟨hc, hs⟩ (c_Al_size hl0 _ _ hq) (fun _ _ _ _ _ _ h => h.elim) (fun v33 w34 H locs hv hW => ?_)
      obtain ⟨i39, rfl, hq⟩ := hv
      refine W.eq (g2 := F0 m 76 ls [.int i39]) rfl ?_
      exact bw_iret C hW ⟨_, rfl, hq⟩ d_Br_count_76 hc hs
    · have hq := hq.2.2.2.2.1 c1
      refine lv_tableIn (tgt := 77) hx hb d_Br_count_1 (by rw [c1]; decide) (by rw [c1]; decide) (by rw [c1]; rfl) (by decide) ?_
      refine bw_aload_n hx hb d_Br_count_77 rfl (lv_at hl 0 rfl) ?_
      obtain ⟨t40, hq⟩ := hq
      refine bw_getR hx hb ht in_Br hown hK hW rfl t40 (by decide) rfl 3 (by decide) rfl (ht _ m_62) (fun _ h => h) d_Br_count_78 ?_
      obtain ⟨a41, ea41, hq⟩ := hq
      obtain ⟨t42, hq⟩ := hq
      refine bw_callV (As := []) (rest := []) C hW ci_Al_size m_91 m_92 m_93 d_Br_count_81 ea41 t42 (by decide) rfl rfl rfl hl.1 (by decide) ⟨Nat.le_of_ble_eq_true rfl, Nat.le_of_ble_eq_true rfl⟩ ⟨hc, hs⟩ (c_Al_size hl0 _ _ hq) (fun _ _ _ _ _ _ h => h.elim) (fun v43 w44 H locs hv hW => ?_)
      obtain ⟨i49, rfl, hq⟩ := hv
      refine W.eq (g2 := F0 m 84 ls [.int i49]) rfl ?_
      exact bw_iret C hW ⟨_, rfl, hq⟩ d_Br_count_84 hc hs
    · have hq := hq.2.2.2.2.2.1 c1
      refine lv_tableIn (tgt := 85) hx hb d_Br_count_1 (by rw [c1]; decide) (by rw [c1]; decide) (by rw [c1]; rfl) (by decide) ?_
      refine bw_aload_n hx hb d_Br_count_85 rfl (lv_at hl 0 rfl) ?_
      obtain ⟨t50, hq⟩ := hq
      refine bw_getI hx hb ht in_Br hown hK hW rfl t50 (by decide) rfl 7 (by decide) rfl (ht _ m_66) (fun _ h => h) d_Br_count_86 ?_
      exact bw_iret C hW ⟨_, rfl, hq⟩ d_Br_count_89 hc hs
    · have hq := hq.2.2.2.2.2.2.1 c1
      refine lv_tableIn (tgt := 90) hx hb d_Br_count_1 (by rw [c1]; decide) (by rw [c1]; decide) (by rw [c1]; rfl) (by decide) ?_
      refine bw_aload_n hx hb d_Br_count_90 rfl (lv_at hl 0 rfl) ?_
      obtain ⟨t51, hq⟩ := hq
      refine bw_getR hx hb ht in_Br hown hK hW rfl t51 (by decide) rfl 2 (by decide) rfl (ht _ m_61) (fun _ h => h) d_Br_count_91 ?_
      obtain ⟨a52, ea52, hq⟩ := hq
      obtain ⟨t53, hq⟩ := hq
      refine bw_callV (As := []) (rest := []) C hW ci_Al_size m_91 m_92 m_93 d_Br_count_94 ea52 t53 (by decide) rfl rfl rfl hl.1 (by decide) ⟨Nat.le_of_ble_eq_true rfl, Nat.le_of_ble_eq_true rfl⟩ ⟨hc, hs⟩ (c_Al_size hl0 _ _ hq) (fun _ _ _ _ _ _ h => h.elim) (fun v54 w55 H locs hv hW => ?_)
      obtain ⟨i60, rfl, hq⟩ := hv
      refine W.eq (g2 := F0 m 97 ls [.int i60]) rfl ?_
      exact bw_iret C hW ⟨_, rfl, hq⟩ d_Br_count_97 hc hs
    · have hq := hq.2.2.2.2.2.2.2.1 c1
      refine lv_tableIn (tgt := 98) hx hb d_Br_count_1 (by rw [c1]; decide) (by rw [c1]; decide) (by rw [c1]; rfl) (by decide) ?_
      refine bw_aload_n hx hb d_Br_count_98 rfl (lv_at hl 0 rfl) ?_
      obtain ⟨t61, hq⟩ := hq
      refine bw_getR hx hb ht in_Br hown hK hW rfl t61 (by decide) rfl 4 (by decide) rfl (ht _ m_63) (fun _ h => h) d_Br_count_99 ?_
      obtain ⟨a62, ea62, hq⟩ := hq
      obtain ⟨t63, hq⟩ := hq
      refine bw_callV (As := []) (rest := []) C hW ci_Al_size m_91 m_92 m_93 d_Br_count_102 ea62 t63 (by decide) rfl rfl rfl hl.1 (by decide) ⟨Nat.le_of_ble_eq_true rfl, Nat.le_of_ble_eq_true rfl⟩ ⟨hc, hs⟩ (c_Al_size hl0 _ _ hq) (fun _ _ _ _ _ _ h => h.elim) (fun v64 w65 H locs hv hW => ?_)
      obtain ⟨i70, rfl, hq⟩ := hv
      refine W.eq (g2 := F0 m 105 ls [.int i70]) rfl ?_
      exact bw_iret C hW ⟨_, rfl, hq⟩ d_Br_count_105 hc hs
theorem ci_Br_count : CI n_Br_count b_Br_count 2 (some .int) 1 := ⟨m_90, m_1, by decide, by decide, by decide +kernel⟩
theorem c_Br_count {l : Launch} {D : va_G} {AC : Nat → ClassId} {e0 mi : Nat} {Q : Int32 → Wd → Prop} (hl0 : l.stackTraces = false) (x0 : Nat) (x1 : Int32) (w : Wd) (hq : wp_Br_count e0 mi x0 x1 w Q) : Ct l D AC e0 mi n_Br_count (wy n_Br_count b_Br_count 2 (some .int)) 4 86 [va_rf (some x0), .int x1] w 0 0 (fun v w9 => ∃ r9 : Int32, v = some (.int r9) ∧ Q r9 w9) (fun _ _ => False) :=
  Ct.of hl0 (by decide) (by simp [lg_sl, bw_cat, cat_i, cat_j]) (fun p e s m args below meth c A ls C hW hl => k_Br_count_0 C x0 x1 w hq s.heap [] 0 0 ls hW (by simpa [lv_args, bw_cat, cat_i, cat_j] using hl) (Nat.le_refl _) (Nat.le_refl _))
def wb_Br_giverTo_88 (e0 mi : Nat) (Q : Option Nat → Wd → Prop) (x0 : Nat) (x1 : Option Nat) (x2 : Option Nat) (x3 : Option Nat) (x4 : Int32) (w : Wd) : Prop :=
  Q x2 w
set_option maxHeartbeats 4000000 in
set_option maxRecDepth 100000 in
theorem k_Br_giverTo_88 {p : Program} {l : Launch} {e : Env} {s : State} {m : MethodId} {args : Array Value} {below : List Frame} {meth : Method} {c : Code} {D : va_G} {AC : Nat → ClassId} {e0 mi : Nat} {A : Nat → Prop} {mc ms : Nat} {Q : Option Nat → Wd → Prop} (C : Cx p l s m args meth c D AC e0 mi A n_Br_giverTo b_Br_giverTo 7 (some (.object "BeltRows$Belt"))) (x0 : Nat) (x1 : Option Nat) (x2 : Option Nat) (x3 : Option Nat) (x4 : Int32) (w : Wd) (hq : wb_Br_giverTo_88 e0 mi Q x0 x1 x2 x3 x4 w) : ∀ (H : Heap) (locs : List Loc) (cells slots : Nat) (ls : Array Slot), HW D cls8 FTc AC A s.heap H locs w → lv_has ls 7 [(0, va_rf (some x0)), (1, va_rf x1), (2, va_rf x2), (3, va_rf x3), (4, .int x4)] → cells ≤ mc → slots ≤ ms → W p l e { frames := 3, cells := mc, slots := ms, locals := 64 } s m args below meth c H locs cells slots (vx_MQ below (QQ D AC A (fun v w9 => ∃ r9 : Option Nat, v = some (va_rf r9) ∧ Q r9 w9)) (XX D AC A (fun _ _ => False)) args s mc ms A) (F0 m 88 ls []) := by
  obtain ⟨hl0, hx, hb, hr, ht, hown, hlocks, hnm, hml, hex, hK, hA, hZ, hV⟩ := id C
  intro H locs cells slots ls hW hl hc hs
  unfold wb_Br_giverTo_88 at hq
  refine bw_aload_n hx hb d_Br_giverTo_88 rfl (lv_at hl 2 rfl) ?_
  exact bw_aret C (Or.inl ⟨_, rfl⟩) hW ⟨_, rfl, hq⟩ d_Br_giverTo_89 hc hs
def wb_Br_giverTo_82 (e0 mi : Nat) (K7 : Nat → Option Nat → Option Nat → Option Nat → Int32 → Wd → Prop) (Q : Option Nat → Wd → Prop) (x0 : Nat) (x1 : Option Nat) (x2 : Option Nat) (x3 : Option Nat) (x4 : Int32) (x5 : Option Nat) (x6 : Option Nat) (w : Wd) : Prop :=
  ∀ i1 : Int32, i1 = x4 + 1 → (K7 x0 x1 x2 x3 i1 w)
set_option maxHeartbeats 4000000 in
set_option maxRecDepth 100000 in
theorem k_Br_giverTo_82 {p : Program} {l : Launch} {e : Env} {s : State} {m : MethodId} {args : Array Value} {below : List Frame} {meth : Method} {c : Code} {D : va_G} {AC : Nat → ClassId} {e0 mi : Nat} {A : Nat → Prop} {mc ms : Nat} {K7 : Nat → Option Nat → Option Nat → Option Nat → Int32 → Wd → Prop} {Q : Option Nat → Wd → Prop} (C : Cx p l s m args meth c D AC e0 mi A n_Br_giverTo b_Br_giverTo 7 (some (.object "BeltRows$Belt"))) (hK7 : ∀ (x0 : Nat) (x1 : Option Nat) (x2 : Option Nat) (x3 : Option Nat) (x4 : Int32) (w : Wd), K7 x0 x1 x2 x3 x4 w → ∀ (H : Heap) (locs : List Loc) (cells slots : Nat) (ls : Array Slot), HW D cls8 FTc AC A s.heap H locs w → lv_has ls 7 [(0, va_rf (some x0)), (1, va_rf x1), (2, va_rf x2), (3, va_rf x3), (4, .int x4)] → cells ≤ mc → slots ≤ ms → W p l e { frames := 3, cells := mc, slots := ms, locals := 64 } s m args below meth c H locs cells slots (vx_MQ below (QQ D AC A (fun v w9 => ∃ r9 : Option Nat, v = some (va_rf r9) ∧ Q r9 w9)) (XX D AC A (fun _ _ => False)) args s mc ms A) (F0 m 7 ls [])) (x0 : Nat) (x1 : Option Nat) (x2 : Option Nat) (x3 : Option Nat) (x4 : Int32) (x5 : Option Nat) (x6 : Option Nat) (w : Wd) (hq : wb_Br_giverTo_82 e0 mi K7 Q x0 x1 x2 x3 x4 x5 x6 w) : ∀ (H : Heap) (locs : List Loc) (cells slots : Nat) (ls : Array Slot), HW D cls8 FTc AC A s.heap H locs w → lv_has ls 7 [(0, va_rf (some x0)), (1, va_rf x1), (2, va_rf x2), (3, va_rf x3), (4, .int x4), (5, va_rf x5), (6, va_rf x6)] → cells ≤ mc → slots ≤ ms → W p l e { frames := 3, cells := mc, slots := ms, locals := 64 } s m args below meth c H locs cells slots (vx_MQ below (QQ D AC A (fun v w9 => ∃ r9 : Option Nat, v = some (va_rf r9) ∧ Q r9 w9)) (XX D AC A (fun _ _ => False)) args s mc ms A) (F0 m 82 ls []) := by
  obtain ⟨hl0, hx, hb, hr, ht, hown, hlocks, hnm, hml, hex, hK, hA, hZ, hV⟩ := id C
  intro H locs cells slots ls hW hl hc hs
  unfold wb_Br_giverTo_82 at hq
  obtain ⟨i1, ei1⟩ : ∃ y : Int32, y = x4 + 1 := ⟨_, rfl⟩
  have hq := hq i1 ei1
  refine lv_iinc (v := i1) (lv' := [(4, .int i1), (0, va_rf (some x0)), (1, va_rf x1), (2, va_rf x2), (3, va_rf x3), (5, va_rf x5), (6, va_rf x6)]) hx hb d_Br_giverTo_82 hl (k := 4) rfl (by rw [ei1]; rfl) (by decide) (by simp [bw_cat, cat_i, cat_j]) (fun ls hl => ?_)
  refine lv_goto (tgt := 7) hx hb d_Br_giverTo_85 (by decide) ?_
  exact hK7 _ _ _ _ _ _ hq _ _ _ _ _ hW (lv_sub hl [1, 2, 3, 4, 0] rfl) hc hs
def wb_Br_giverTo_76 (e0 mi : Nat) (K7 : Nat → Option Nat → Option Nat → Option Nat → Int32 → Wd → Prop) (Q : Option Nat → Wd → Prop) (x0 : Nat) (x1 : Option Nat) (x2 : Option Nat) (x3 : Option Nat) (x4 : Int32) (x5 : Option Nat) (x6 : Option Nat) (w : Wd) : Prop :=
  wb_Br_giverTo_82 e0 mi K7 Q x0 x1 x5 x6 x4 x5 x6 w
set_option maxHeartbeats 4000000 in
set_option maxRecDepth 100000 in
theorem k_Br_giverTo_76 {p : Program} {l : Launch} {e : Env} {s : State} {m : MethodId} {args : Array Value} {below : List Frame} {meth : Method} {c : Code} {D : va_G} {AC : Nat → ClassId} {e0 mi : Nat} {A : Nat → Prop} {mc ms : Nat} {K7 : Nat → Option Nat → Option Nat → Option Nat → Int32 → Wd → Prop} {Q : Option Nat → Wd → Prop} (C : Cx p l s m args meth c D AC e0 mi A n_Br_giverTo b_Br_giverTo 7 (some (.object "BeltRows$Belt"))) (hK7 : ∀ (x0 : Nat) (x1 : Option Nat) (x2 : Option Nat) (x3 : Option Nat) (x4 : Int32) (w : Wd), K7 x0 x1 x2 x3 x4 w → ∀ (H : Heap) (locs : List Loc) (cells slots : Nat) (ls : Array Slot), HW D cls8 FTc AC A s.heap H locs w → lv_has ls 7 [(0, va_rf (some x0)), (1, va_rf x1), (2, va_rf x2), (3, va_rf x3), (4, .int x4)] → cells ≤ mc → slots ≤ ms → W p l e { frames := 3, cells := mc, slots := ms, locals := 64 } s m args below meth c H locs cells slots (vx_MQ below (QQ D AC A (fun v w9 => ∃ r9 : Option Nat, v = some (va_rf r9) ∧ Q r9 w9)) (XX D AC A (fun _ _ => False)) args s mc ms A) (F0 m 7 ls [])) (x0 : Nat) (x1 : Option Nat) (x2 : Option Nat) (x3 : Option Nat) (x4 : Int32) (x5 : Option Nat) (x6 : Option Nat) (w : Wd) (hq : wb_Br_giverTo_76 e0 mi K7 Q x0 x1 x2 x3 x4 x5 x6 w) : ∀ (H : Heap) (locs : List Loc) (cells slots : Nat) (ls : Array Slot), HW D cls8 FTc AC A s.heap H locs w → lv_has ls 7 [(0, va_rf (some x0)), (1, va_rf x1), (2, va_rf x2), (3, va_rf x3), (4, .int x4), (5, va_rf x5), (6, va_rf x6)] → cells ≤ mc → slots ≤ ms → W p l e { frames := 3, cells := mc, slots := ms, locals := 64 } s m args below meth c H locs cells slots (vx_MQ below (QQ D AC A (fun v w9 => ∃ r9 : Option Nat, v = some (va_rf r9) ∧ Q r9 w9)) (XX D AC A (fun _ _ => False)) args s mc ms A) (F0 m 76 ls []) := by
  obtain ⟨hl0, hx, hb, hr, ht, hown, hlocks, hnm, hml, hex, hK, hA, hZ, hV⟩ := id C
  intro H locs cells slots ls hW hl hc hs
  unfold wb_Br_giverTo_76 at hq
  refine bw_aload hx hb d_Br_giverTo_76 (lv_at hl 5 rfl) ?_
  refine bw_astore_n (i := 2) (lv' := [(2, va_rf x5), (0, va_rf (some x0)), (1, va_rf x1), (3, va_rf x3), (4, .int x4), (5, va_rf x5), (6, va_rf x6)]) hx hb d_Br_giverTo_78 rfl hl (by decide) (by simp [bw_cat, cat_i, cat_j]) (fun ls hl => ?_)
  refine bw_aload hx hb d_Br_giverTo_79 (lv_at hl 6 rfl) ?_
  refine bw_astore_n (i := 3) (lv' := [(3, va_rf x6), (2, va_rf x5), (0, va_rf (some x0)), (1, va_rf x1), (4, .int x4), (5, va_rf x5), (6, va_rf x6)]) hx hb d_Br_giverTo_81 rfl hl (by decide) (by simp [bw_cat, cat_i, cat_j]) (fun ls hl => ?_)
  exact k_Br_giverTo_82 C hK7 _ _ _ _ _ _ _ _ hq _ _ _ _ _ hW (lv_sub hl [2, 3, 1, 0, 4, 5, 6] rfl) hc hs
def wb_Br_giverTo_7 (e0 mi : Nat) (Q : Option Nat → Wd → Prop) : Nat → Nat → Option Nat → Option Nat → Option Nat → Int32 → Wd → Prop
  | 0, _, _, _, _, _, _ => False
  | n + 1, x0, x1, x2, x3, x4, w => ∃ a1 : Nat, x1 = some a1 ∧ (bw_is w a1 0 ∧ (((wI w a1 0) ≤ x4 → (wb_Br_giverTo_88 e0 mi Q x0 x1 x2 x3 x4 w)) ∧ (¬ (wI w a1 0) ≤ x4 → (bw_is w x0 5 ∧ (∃ a5 : Nat, (wR w x0 0) = some a5 ∧ (bw_is w a5 7 ∧ (wp_Al_size e0 mi a5 w (fun i13 w8 => (i13 ≤ x4 → (wb_Br_giverTo_88 e0 mi Q x0 x1 x2 x3 x4 w8)) ∧ (¬ i13 ≤ x4 → (bw_is w8 x0 5 ∧ (∃ a16 : Nat, (wR w8 x0 0) = some a16 ∧ (bw_is w8 a16 7 ∧ (wp_Al_get e0 mi a16 x4 w8 (fun r24 w19 => (∀ a26, r24 = some a26 → bw_is w19 a26 0) ∧ (∃ a27 : Nat, r24 = some a27 ∧ (bw_is w19 a27 0 ∧ (wp_Bt_wayInUse e0 mi a27 w19 (fun r35 w30 => (r35 = none → (wb_Br_giverTo_82 e0 mi (wb_Br_giverTo_7 e0 mi Q n) Q x0 x1 x2 x3 x4 r24 r35 w30)) ∧ (¬ r35 = none → (∃ a37 : Nat, r35 = some a37 ∧ (bw_is w30 a37 4 ∧ ((¬ (wR w30 a37 0) = x1 → (wb_Br_giverTo_82 e0 mi (wb_Br_giverTo_7 e0 mi Q n) Q x0 x1 x2 x3 x4 r24 r35 w30)) ∧ ((wR w30 a37 0) = x1 → ((x3 = none → (wb_Br_giverTo_76 e0 mi (wb_Br_giverTo_7 e0 mi Q n) Q x0 x1 x2 x3 x4 r24 r35 w30)) ∧ (¬ x3 = none → (wp_Wy_isDueBefore e0 mi a37 x3 w30 (fun i47 w42 => (i47 = 0 → (wb_Br_giverTo_82 e0 mi (wb_Br_giverTo_7 e0 mi Q n) Q x0 x1 x2 x3 x4 r24 r35 w42)) ∧ (¬ i47 = 0 → (wb_Br_giverTo_76 e0 mi (wb_Br_giverTo_7 e0 mi Q n) Q x0 x1 x2 x3 x4 r24 r35 w42)))))))))))))))))))))))))))))
set_option maxHeartbeats 4000000 in
set_option maxRecDepth 100000 in
theorem k_Br_giverTo_7 {p : Program} {l : Launch} {e : Env} {s : State} {m : MethodId} {args : Array Value} {below : List Frame} {meth : Method} {c : Code} {D : va_G} {AC : Nat → ClassId} {e0 mi : Nat} {A : Nat → Prop} {mc ms : Nat} {Q : Option Nat → Wd → Prop} (C : Cx p l s m args meth c D AC e0 mi A n_Br_giverTo b_Br_giverTo 7 (some (.object "BeltRows$Belt"))) : ∀ (n : Nat) (x0 : Nat) (x1 : Option Nat) (x2 : Option Nat) (x3 : Option Nat) (x4 : Int32) (w : Wd), wb_Br_giverTo_7 e0 mi Q n x0 x1 x2 x3 x4 w → ∀ (H : Heap) (locs : List Loc) (cells slots : Nat) (ls : Array Slot), HW D cls8 FTc AC A s.heap H locs w → lv_has ls 7 [(0, va_rf (some x0)), (1, va_rf x1), (2, va_rf x2), (3, va_rf x3), (4, .int x4)] → cells ≤ mc → slots ≤ ms → W p l e { frames := 3, cells := mc, slots := ms, locals := 64 } s m args below meth c H locs cells slots (vx_MQ below (QQ D AC A (fun v w9 => ∃ r9 : Option Nat, v = some (va_rf r9) ∧ Q r9 w9)) (XX D AC A (fun _ _ => False)) args s mc ms A) (F0 m 7 ls []) := by
  obtain ⟨hl0, hx, hb, hr, ht, hown, hlocks, hnm, hml, hex, hK, hA, hZ, hV⟩ := id C
  intro n
  induction n with
  | zero =>
    intro x0 x1 x2 x3 x4 w hq
    exact hq.elim
  | succ n ih =>
    intro x0 x1 x2 x3 x4 w hq H locs cells slots ls hW hl hc hs
    have hK7 := ih
    unfold wb_Br_giverTo_7 at hq
    refine lv_iload hx hb d_Br_giverTo_7 (lv_at hl 4 rfl) ?_
    refine bw_aload_n hx hb d_Br_giverTo_9 rfl (lv_at hl 1 rfl) ?_
    obtain ⟨a1, ea1, hq⟩ := hq
    obtain ⟨t2, hq⟩ := hq
    refine bw_getI hx hb ht in_Bt hown hK hW ea1 t2 (by decide) rfl 0 (by decide) rfl (ht _ m_238) (fun _ h => h) d_Br_giverTo_10 ?_
    refine lv_icmp_ge (tgt := 88) hx hb d_Br_giverTo_13 (by decide) (fun c3 => ?_) (fun c3 => ?_)
    · have hq := hq.1 c3
      exact k_Br_giverTo_88 C  _ _ _ _ _ _ hq _ _ _ _ _ hW (lv_sub hl [0, 1, 2, 3, 4] rfl) hc hs
    · have hq := hq.2 c3
      refine lv_iload hx hb d_Br_giverTo_16 (lv_at hl 4 rfl) ?_
      refine bw_aload_n hx hb d_Br_giverTo_18 rfl (lv_at hl 0 rfl) ?_
      obtain ⟨t4, hq⟩ := hq
      refine bw_getR hx hb ht in_Br hown hK hW rfl t4 (by decide) rfl 0 (by decide) rfl (ht _ m_59) (fun _ h => h) d_Br_giverTo_19 ?_
      obtain ⟨a5, ea5, hq⟩ := hq
      obtain ⟨t6, hq⟩ := hq
      refine bw_callV (As := []) (rest := [.int x4]) C hW ci_Al_size m_91 m_92 m_93 d_Br_giverTo_22 ea5 t6 (by decide) rfl rfl rfl hl.1 (by simp [bw_cat, cat_i, cat_j]) ⟨Nat.le_of_ble_eq_true rfl, Nat.le_of_ble_eq_true rfl⟩ ⟨hc, hs⟩ (c_Al_size hl0 _ _ hq) (fun _ _ _ _ _ _ h => h.elim) (fun v7 w8 H locs hv hW => ?_)
      obtain ⟨i13, rfl, hq⟩ := hv
      refine W.eq (g2 := F0 m 25 ls [.int i13, .int x4]) rfl ?_
      refine lv_icmp_ge (tgt := 88) hx hb d_Br_giverTo_25 (by decide) (fun c14 => ?_) (fun c14 => ?_)
      · have hq := hq.1 c14
        exact k_Br_giverTo_88 C  _ _ _ _ _ _ hq _ _ _ _ _ hW (lv_sub hl [0, 1, 2, 3, 4] rfl) hc hs
      · have hq := hq.2 c14
        refine bw_aload_n hx hb d_Br_giverTo_28 rfl (lv_at hl 0 rfl) ?_
        obtain ⟨t15, hq⟩ := hq
        refine bw_getR hx hb ht in_Br hown hK hW rfl t15 (by decide) rfl 0 (by decide) rfl (ht _ m_59) (fun _ h => h) d_Br_giverTo_29 ?_
        refine lv_iload hx hb d_Br_giverTo_32 (lv_at hl 4 rfl) ?_
        obtain ⟨a16, ea16, hq⟩ := hq
        obtain ⟨t17, hq⟩ := hq
        refine bw_callV (As := [.int x4]) (rest := []) C hW ci_Al_get m_99 m_100 m_101 d_Br_giverTo_34 ea16 t17 (by decide) rfl rfl rfl hl.1 (by decide) ⟨Nat.le_of_ble_eq_true rfl, Nat.le_of_ble_eq_true rfl⟩ ⟨hc, hs⟩ (c_Al_get hl0 _ _ _ hq) (fun _ _ _ _ _ _ h => h.elim) (fun v18 w19 H locs hv hW => ?_)
        obtain ⟨r24, rfl, hq⟩ := hv
        refine W.eq (g2 := F0 m 37 ls [va_rf r24]) rfl ?_
        obtain ⟨h25, hq⟩ := hq
        refine bw_cast C hW m_113 (cn := 0) rfl (by decide) (by decide +kernel) h25 d_Br_giverTo_37 ?_
        refine bw_astore (lv' := [(5, va_rf r24), (0, va_rf (some x0)), (1, va_rf x1), (2, va_rf x2), (3, va_rf x3), (4, .int x4)]) hx hb d_Br_giverTo_40 hl (by decide) (by simp [bw_cat, cat_i, cat_j]) (fun ls hl => ?_)
        refine bw_aload hx hb d_Br_giverTo_42 (lv_at hl 0 rfl) ?_
        obtain ⟨a27, ea27, hq⟩ := hq
        obtain ⟨t28, hq⟩ := hq
        refine bw_callV (As := []) (rest := []) C hW ci_Bt_wayInUse m_619 m_620 m_621 d_Br_giverTo_44 ea27 t28 (by decide) rfl rfl rfl hl.1 (by decide) ⟨Nat.le_of_ble_eq_true rfl, Nat.le_of_ble_eq_true rfl⟩ ⟨hc, hs⟩ (c_Bt_wayInUse hl0 _ _ hq) (fun _ _ _ _ _ _ h => h.elim) (fun v29 w30 H locs hv hW => ?_)
        obtain ⟨r35, rfl, hq⟩ := hv
        refine W.eq (g2 := F0 m 47 ls [va_rf r35]) rfl ?_
        refine bw_astore (lv' := [(6, va_rf r35), (5, va_rf r24), (0, va_rf (some x0)), (1, va_rf x1), (2, va_rf x2), (3, va_rf x3), (4, .int x4)]) hx hb d_Br_giverTo_47 hl (by decide) (by simp [bw_cat, cat_i, cat_j]) (fun ls hl => ?_)
        refine bw_aload hx hb d_Br_giverTo_49 (lv_at hl 0 rfl) ?_
        refine bw_ifnull (tgt := 82) hx hb d_Br_giverTo_51 (by decide) (fun c36 => ?_) (fun c36 => ?_)
        · have hq := hq.1 c36
          exact k_Br_giverTo_82 C hK7 _ _ _ _ _ _ _ _ hq _ _ _ _ _ hW (lv_sub hl [2, 3, 4, 5, 6, 1, 0] rfl) hc hs
        · have hq := hq.2 c36
          refine bw_aload hx hb d_Br_giverTo_54 (lv_at hl 0 rfl) ?_
          obtain ⟨a37, ea37, hq⟩ := hq
          obtain ⟨t38, hq⟩ := hq
          refine bw_getR hx hb ht in_Wy hown hK hW ea37 t38 (by decide) rfl 0 (by decide) rfl (ht _ m_225) (fun _ h => h) d_Br_giverTo_56 ?_
          refine bw_aload_n hx hb d_Br_giverTo_59 rfl (lv_at hl 3 rfl) ?_
          refine lv_acmp_ne (tgt := 82) hx hb d_Br_giverTo_60 (by decide) (fun c39 => ?_) (fun c39 => ?_)
          · have hq := hq.1 c39
            exact k_Br_giverTo_82 C hK7 _ _ _ _ _ _ _ _ hq _ _ _ _ _ hW (lv_sub hl [2, 3, 4, 5, 6, 1, 0] rfl) hc hs
          · have hq := hq.2 c39
            refine bw_aload_n hx hb d_Br_giverTo_63 rfl (lv_at hl 5 rfl) ?_
            refine bw_ifnull (tgt := 76) hx hb d_Br_giverTo_64 (by decide) (fun c40 => ?_) (fun c40 => ?_)
            · have hq := hq.1 c40
              exact k_Br_giverTo_76 C hK7 _ _ _ _ _ _ _ _ hq _ _ _ _ _ hW (lv_sub hl [2, 3, 4, 5, 6, 1, 0] rfl) hc hs
            · have hq := hq.2 c40
              refine bw_aload hx hb d_Br_giverTo_67 (lv_at hl 0 rfl) ?_
              refine bw_aload_n hx hb d_Br_giverTo_69 rfl (lv_at hl 5 rfl) ?_
              refine bw_callV (As := [va_rf x3]) (rest := []) C hW ci_Wy_isDueBefore m_625 m_626 m_627 d_Br_giverTo_70 ea37 t38 (by decide) rfl rfl rfl hl.1 (by decide) ⟨Nat.le_of_ble_eq_true rfl, Nat.le_of_ble_eq_true rfl⟩ ⟨hc, hs⟩ (c_Wy_isDueBefore hl0 _ _ _ hq) (fun _ _ _ _ _ _ h => h.elim) (fun v41 w42 H locs hv hW => ?_)
              obtain ⟨i47, rfl, hq⟩ := hv
              refine W.eq (g2 := F0 m 73 ls [.int i47]) rfl ?_
              refine lv_if_eq (tgt := 82) hx hb d_Br_giverTo_73 (by decide) (fun c48 => ?_) (fun c48 => ?_)
              · have hq := hq.1 c48
                exact k_Br_giverTo_82 C hK7 _ _ _ _ _ _ _ _ hq _ _ _ _ _ hW (lv_sub hl [2, 3, 4, 5, 6, 1, 0] rfl) hc hs
              · have hq := hq.2 c48
                exact k_Br_giverTo_76 C hK7 _ _ _ _ _ _ _ _ hq _ _ _ _ _ hW (lv_sub hl [2, 3, 4, 5, 6, 1, 0] rfl) hc hs
def wp_Br_giverTo (e0 mi : Nat) (x0 : Nat) (x1 : Option Nat) (w : Wd) (Q : Option Nat → Wd → Prop) : Prop :=
  ∃ n1 : Nat, wb_Br_giverTo_7 e0 mi Q n1 x0 x1 none none (0 : Int32) w
set_option maxHeartbeats 4000000 in
set_option maxRecDepth 100000 in
theorem k_Br_giverTo_0 {p : Program} {l : Launch} {e : Env} {s : State} {m : MethodId} {args : Array Value} {below : List Frame} {meth : Method} {c : Code} {D : va_G} {AC : Nat → ClassId} {e0 mi : Nat} {A : Nat → Prop} {mc ms : Nat} {Q : Option Nat → Wd → Prop} (C : Cx p l s m args meth c D AC e0 mi A n_Br_giverTo b_Br_giverTo 7 (some (.object "BeltRows$Belt"))) (x0 : Nat) (x1 : Option Nat) (w : Wd) (hq : wp_Br_giverTo e0 mi x0 x1 w Q) : ∀ (H : Heap) (locs : List Loc) (cells slots : Nat) (ls : Array Slot), HW D cls8 FTc AC A s.heap H locs w → lv_has ls 7 [(0, va_rf (some x0)), (1, va_rf x1)] → cells ≤ mc → slots ≤ ms → W p l e { frames := 3, cells := mc, slots := ms, locals := 64 } s m args below meth c H locs cells slots (vx_MQ below (QQ D AC A (fun v w9 => ∃ r9 : Option Nat, v = some (va_rf r9) ∧ Q r9 w9)) (XX D AC A (fun _ _ => False)) args s mc ms A) (F0 m 0 ls []) := by
  obtain ⟨hl0, hx, hb, hr, ht, hown, hlocks, hnm, hml, hex, hK, hA, hZ, hV⟩ := id C
  intro H locs cells slots ls hW hl hc hs
  unfold wp_Br_giverTo at hq
  refine bw_null hx hb d_Br_giverTo_0 ?_
  refine bw_astore_n (i := 2) (lv' := [(2, va_rf none), (0, va_rf (some x0)), (1, va_rf x1)]) hx hb d_Br_giverTo_1 rfl hl (by decide) (by simp [bw_cat, cat_i, cat_j]) (fun ls hl => ?_)
  refine bw_null hx hb d_Br_giverTo_2 ?_
  refine bw_astore_n (i := 3) (lv' := [(3, va_rf none), (2, va_rf none), (0, va_rf (some x0)), (1, va_rf x1)]) hx hb d_Br_giverTo_3 rfl hl (by decide) (by simp [bw_cat, cat_i, cat_j]) (fun ls hl => ?_)
  refine lv_iconst (v := 0) hx hb d_Br_giverTo_4 (by decide) ?_
  refine lv_istore (lv' := [(4, .int (0 : Int32)), (3, va_rf none), (2, va_rf none), (0, va_rf (some x0)), (1, va_rf x1)]) hx hb d_Br_giverTo_5 hl (by decide) (by simp [bw_cat, cat_i, cat_j]) (fun ls hl => ?_)
  obtain ⟨n1, hq⟩ := hq
  exact k_Br_giverTo_7 C  n1 _ _ _ _ _ _ hq _ _ _ _ _ hW (lv_sub hl [3, 4, 2, 1, 0] rfl) hc hs
theorem ci_Br_giverTo : CI n_Br_giverTo b_Br_giverTo 7 (some (.object "BeltRows$Belt")) 1 := ⟨m_618, m_1, by decide, by decide, by decide +kernel⟩
theorem sel_Br_giverTo : Cond.selects "BeltRows" n_Br_giverTo n_Br_giverTo ∈ TBL := List.mem_filter.mpr ⟨List.mem_append_left _ (List.mem_map.mpr ⟨(n_Br_giverTo, 9), by decide +kernel, rfl⟩), rfl⟩
theorem c_Br_giverTo {l : Launch} {D : va_G} {AC : Nat → ClassId} {e0 mi : Nat} {Q : Option Nat → Wd → Prop} (hl0 : l.stackTraces = false) (x0 : Nat) (x1 : Option Nat) (w : Wd) (hq : wp_Br_giverTo e0 mi x0 x1 w Q) : Ct l D AC e0 mi n_Br_giverTo (wy n_Br_giverTo b_Br_giverTo 7 (some (.object "BeltRows$Belt"))) 3 64 [va_rf (some x0), va_rf x1] w 0 0 (fun v w9 => ∃ r9 : Option Nat, v = some (va_rf r9) ∧ Q r9 w9) (fun _ _ => False) :=
  Ct.of hl0 (by decide) (by simp [lg_sl, bw_cat, cat_i, cat_j]) (fun p e s m args below meth c A ls C hW hl => k_Br_giverTo_0 C x0 x1 w hq s.heap [] 0 0 ls hW (by simpa [lv_args, bw_cat, cat_i, cat_j] using hl) (Nat.le_refl _) (Nat.le_refl _))
def wb_Br_tell_22 (e0 mi : Nat) (Q : Wd → Prop) (x0 : Nat) (x1 : Option Nat) (w : Wd) (nc ns : Nat) : Prop :=
  Q w
set_option maxHeartbeats 4000000 in
set_option maxRecDepth 100000 in
theorem k_Br_tell_22 {p : Program} {l : Launch} {e : Env} {s : State} {m : MethodId} {args : Array Value} {below : List Frame} {meth : Method} {c : Code} {D : va_G} {AC : Nat → ClassId} {e0 mi : Nat} {A : Nat → Prop} {mc ms : Nat} {Q : Wd → Prop} (C : Cx p l s m args meth c D AC e0 mi A n_Br_tell b_Br_tell 2 none) (x0 : Nat) (x1 : Option Nat) (w : Wd) (nc ns : Nat) (hq : wb_Br_tell_22 e0 mi Q x0 x1 w nc ns) : ∀ (H : Heap) (locs : List Loc) (cells slots : Nat) (ls : Array Slot), HW D cls8 FTc AC A s.heap H locs w → lv_has ls 2 [(0, va_rf (some x0)), (1, va_rf x1)] → cells + nc ≤ mc → slots + ns ≤ ms → W p l e { frames := 7, cells := mc, slots := ms, locals := 171 } s m args below meth c H locs cells slots (vx_MQ below (QQ D AC A (fun v w9 => v = none ∧ Q w9)) (XX D AC A (fun _ _ => False)) args s mc ms A) (F0 m 22 ls []) := by
  obtain ⟨hl0, hx, hb, hr, ht, hown, hlocks, hnm, hml, hex, hK, hA, hZ, hV⟩ := id C
  intro H locs cells slots ls hW hl hc hs
  unfold wb_Br_tell_22 at hq
  exact bw_vret C hW ⟨rfl, hq⟩ d_Br_tell_22 (Nat.le_trans (Nat.le_add_right _ _) hc) (Nat.le_trans (Nat.le_add_right _ _) hs)
def wp_Br_tell (e0 mi : Nat) (x0 : Nat) (x1 : Option Nat) (w : Wd) (nc ns : Nat) (Q : Wd → Prop) : Prop :=
  bw_is w x0 5 ∧ (∃ a2 : Nat, (wR w x0 3) = some a2 ∧ (bw_is w a2 7 ∧ (wp_Al_size e0 mi a2 w (fun i10 w5 => ((4096 : Int32) ≤ i10 → (wb_Br_tell_22 e0 mi Q x0 x1 w5 nc ns)) ∧ (¬ (4096 : Int32) ≤ i10 → (bw_is w5 x0 5 ∧ (∃ a13 : Nat, (wR w5 x0 3) = some a13 ∧ (bw_is w5 a13 7 ∧ (∃ k17 k18 : Nat, k17 ≤ nc ∧ k18 ≤ ns ∧ wp_Al_add e0 mi a13 x1 w5 k17 k18 (fun i21 w16 => wb_Br_tell_22 e0 mi Q x0 x1 w16 (nc - k17) (ns - k18)))))))))))
set_option maxHeartbeats 4000000 in
set_option maxRecDepth 100000 in
theorem k_Br_tell_0 {p : Program} {l : Launch} {e : Env} {s : State} {m : MethodId} {args : Array Value} {below : List Frame} {meth : Method} {c : Code} {D : va_G} {AC : Nat → ClassId} {e0 mi : Nat} {A : Nat → Prop} {mc ms : Nat} {Q : Wd → Prop} (C : Cx p l s m args meth c D AC e0 mi A n_Br_tell b_Br_tell 2 none) (x0 : Nat) (x1 : Option Nat) (w : Wd) (nc ns : Nat) (hq : wp_Br_tell e0 mi x0 x1 w nc ns Q) : ∀ (H : Heap) (locs : List Loc) (cells slots : Nat) (ls : Array Slot), HW D cls8 FTc AC A s.heap H locs w → lv_has ls 2 [(0, va_rf (some x0)), (1, va_rf x1)] → cells + nc ≤ mc → slots + ns ≤ ms → W p l e { frames := 7, cells := mc, slots := ms, locals := 171 } s m args below meth c H locs cells slots (vx_MQ below (QQ D AC A (fun v w9 => v = none ∧ Q w9)) (XX D AC A (fun _ _ => False)) args s mc ms A) (F0 m 0 ls []) := by
  obtain ⟨hl0, hx, hb, hr, ht, hown, hlocks, hnm, hml, hex, hK, hA, hZ, hV⟩ := id C
  intro H locs cells slots ls hW hl hc hs
  unfold wp_Br_tell at hq
  refine bw_aload_n hx hb d_Br_tell_0 rfl (lv_at hl 0 rfl) ?_
  obtain ⟨t1, hq⟩ := hq
  refine bw_getR hx hb ht in_Br hown hK hW rfl t1 (by decide) rfl 3 (by decide) rfl (ht _ m_62) (fun _ h => h) d_Br_tell_1 ?_
  obtain ⟨a2, ea2, hq⟩ := hq
  obtain ⟨t3, hq⟩ := hq
  refine bw_callV (As := []) (rest := []) C hW ci_Al_size m_91 m_92 m_93 d_Br_tell_4 ea2 t3 (by decide) rfl rfl rfl hl.1 (by decide) ⟨Nat.le_of_ble_eq_true rfl, Nat.le_of_ble_eq_true rfl⟩ ⟨Nat.le_trans (Nat.add_le_add_left (Nat.zero_le _) _) hc, Nat.le_trans (Nat.add_le_add_left (Nat.zero_le _) _) hs⟩ (c_Al_size hl0 _ _ hq) (fun _ _ _ _ _ _ h => h.elim) (fun v4 w5 H locs hv hW => ?_)
  obtain ⟨i10, rfl, hq⟩ := hv
  have hc := bw_bud0 hc
  have hs := bw_bud0 hs
  refine W.eq (g2 := F0 m 7 ls [.int i10]) rfl ?_
  refine lv_sipush (v := 4096) hx hb d_Br_tell_7 (by decide) ?_
  refine lv_icmp_ge (tgt := 22) hx hb d_Br_tell_10 (by decide) (fun c11 => ?_) (fun c11 => ?_)
  · have hq := hq.1 c11
    exact k_Br_tell_22 C  _ _ _ _ _ hq _ _ _ _ _ hW (lv_sub hl [0, 1] rfl) hc hs
  · have hq := hq.2 c11
    refine bw_aload_n hx hb d_Br_tell_13 rfl (lv_at hl 0 rfl) ?_
    obtain ⟨t12, hq⟩ := hq
    refine bw_getR hx hb ht in_Br hown hK hW rfl t12 (by decide) rfl 3 (by decide) rfl (ht _ m_62) (fun _ h => h) d_Br_tell_14 ?_
    refine bw_aload_n hx hb d_Br_tell_17 rfl (lv_at hl 1 rfl) ?_
    obtain ⟨a13, ea13, hq⟩ := hq
    obtain ⟨t14, hq⟩ := hq
    obtain ⟨k17, k18, h19, h20, hq⟩ := hq
    refine bw_callV (As := [va_rf x1]) (rest := []) C hW ci_Al_add m_274 m_275 m_276 d_Br_tell_18 ea13 t14 (by decide) rfl rfl rfl hl.1 (by decide) ⟨Nat.le_of_ble_eq_true rfl, Nat.le_of_ble_eq_true rfl⟩ ⟨Nat.le_trans (Nat.add_le_add_left h19 _) hc, Nat.le_trans (Nat.add_le_add_left h20 _) hs⟩ (c_Al_add hl0 _ _ _ _ _ hq) (fun _ _ _ _ _ _ h => h.elim) (fun v15 w16 H locs hv hW => ?_)
    obtain ⟨i21, rfl, hq⟩ := hv
    have hc := bw_bud hc h19
    have hs := bw_bud hs h20
    refine W.eq (g2 := F0 m 21 ls [.int i21]) rfl ?_
    refine lv_pop hx hb d_Br_tell_21 rfl ?_
    exact k_Br_tell_22 C  _ _ _ _ _ hq _ _ _ _ _ hW (lv_sub hl [0, 1] rfl) hc hs
theorem ci_Br_tell : CI n_Br_tell b_Br_tell 2 none 1 := ⟨m_554, m_1, by decide, by decide, by decide +kernel⟩
theorem sel_Br_tell : Cond.selects "BeltRows" n_Br_tell n_Br_tell ∈ TBL := List.mem_filter.mpr ⟨List.mem_append_left _ (List.mem_map.mpr ⟨(n_Br_tell, 9), by decide +kernel, rfl⟩), rfl⟩
theorem c_Br_tell {l : Launch} {D : va_G} {AC : Nat → ClassId} {e0 mi : Nat} {Q : Wd → Prop} (hl0 : l.stackTraces = false) (x0 : Nat) (x1 : Option Nat) (w : Wd) (nc ns : Nat) (hq : wp_Br_tell e0 mi x0 x1 w nc ns Q) : Ct l D AC e0 mi n_Br_tell (wy n_Br_tell b_Br_tell 2 none) 7 171 [va_rf (some x0), va_rf x1] w nc ns (fun v w9 => v = none ∧ Q w9) (fun _ _ => False) :=
  Ct.of hl0 (by decide) (by simp [lg_sl, bw_cat, cat_i, cat_j]) (fun p e s m args below meth c A ls C hW hl => k_Br_tell_0 C x0 x1 w nc ns hq s.heap [] 0 0 ls hW (by simpa [lv_args, bw_cat, cat_i, cat_j] using hl) (Nat.le_of_eq (Nat.zero_add _)) (Nat.le_of_eq (Nat.zero_add _)))
def wb_Br_tellReads_65 (e0 mi : Nat) (K12 : Nat → Int32 → Int32 → Int32 → Wd → Nat → Nat → Prop) (Q : Wd → Prop) (x0 : Nat) (x1 : Int32) (x2 : Int32) (x3 : Int32) (x4 : Option Nat) (w : Wd) (nc ns : Nat) : Prop :=
  ∀ i1 : Int32, i1 = x3 + 1 → (K12 x0 x1 x2 i1 w nc ns)
set_option maxHeartbeats 4000000 in
set_option maxRecDepth 100000 in
theorem k_Br_tellReads_65 {p : Program} {l : Launch} {e : Env} {s : State} {m : MethodId} {args : Array Value} {below : List Frame} {meth : Method} {c : Code} {D : va_G} {AC : Nat → ClassId} {e0 mi : Nat} {A : Nat → Prop} {mc ms : Nat} {K12 : Nat → Int32 → Int32 → Int32 → Wd → Nat → Nat → Prop} {Q : Wd → Prop} (C : Cx p l s m args meth c D AC e0 mi A n_Br_tellReads b_Br_tellReads 5 none) (hK12 : ∀ (x0 : Nat) (x1 : Int32) (x2 : Int32) (x3 : Int32) (w : Wd) (nc ns : Nat), K12 x0 x1 x2 x3 w nc ns → ∀ (H : Heap) (locs : List Loc) (cells slots : Nat) (ls : Array Slot), HW D cls8 FTc AC A s.heap H locs w → lv_has ls 5 [(0, va_rf (some x0)), (1, .int x1), (2, .int x2), (3, .int x3)] → cells + nc ≤ mc → slots + ns ≤ ms → W p l e { frames := 8, cells := mc, slots := ms, locals := 192 } s m args below meth c H locs cells slots (vx_MQ below (QQ D AC A (fun v w9 => v = none ∧ Q w9)) (XX D AC A (fun _ _ => False)) args s mc ms A) (F0 m 12 ls [])) (x0 : Nat) (x1 : Int32) (x2 : Int32) (x3 : Int32) (x4 : Option Nat) (w : Wd) (nc ns : Nat) (hq : wb_Br_tellReads_65 e0 mi K12 Q x0 x1 x2 x3 x4 w nc ns) : ∀ (H : Heap) (locs : List Loc) (cells slots : Nat) (ls : Array Slot), HW D cls8 FTc AC A s.heap H locs w → lv_has ls 5 [(0, va_rf (some x0)), (1, .int x1), (2, .int x2), (3, .int x3), (4, va_rf x4)] → cells + nc ≤ mc → slots + ns ≤ ms → W p l e { frames := 8, cells := mc, slots := ms, locals := 192 } s m args below meth c H locs cells slots (vx_MQ below (QQ D AC A (fun v w9 => v = none ∧ Q w9)) (XX D AC A (fun _ _ => False)) args s mc ms A) (F0 m 65 ls []) := by
  obtain ⟨hl0, hx, hb, hr, ht, hown, hlocks, hnm, hml, hex, hK, hA, hZ, hV⟩ := id C
  intro H locs cells slots ls hW hl hc hs
  unfold wb_Br_tellReads_65 at hq
  obtain ⟨i1, ei1⟩ : ∃ y : Int32, y = x3 + 1 := ⟨_, rfl⟩
  have hq := hq i1 ei1
  refine lv_iinc (v := i1) (lv' := [(3, .int i1), (0, va_rf (some x0)), (1, .int x1), (2, .int x2), (4, va_rf x4)]) hx hb d_Br_tellReads_65 hl (k := 3) rfl (by rw [ei1]; rfl) (by decide) (by simp [bw_cat, cat_i, cat_j]) (fun ls hl => ?_)
  refine lv_goto (tgt := 12) hx hb d_Br_tellReads_68 (by decide) ?_
  exact hK12 _ _ _ _ _ _ _ hq _ _ _ _ _ hW (lv_sub hl [1, 2, 3, 0] rfl) hc hs
def wb_Br_tellReads_75 (e0 mi : Nat) (Q : Wd → Prop) : Nat → Nat → Int32 → Int32 → Int32 → Wd → Nat → Nat → Prop
  | 0, _, _, _, _, _, _, _ => False
  | n + 1, x0, x1, x2, x3, w, nc, ns => (x3 < x2 → (Q w)) ∧ (¬ x3 < x2 → (bw_is w x0 5 ∧ (∃ a3 : Nat, (wR w x0 4) = some a3 ∧ (bw_is w a3 7 ∧ (wp_Al_remove e0 mi a3 x3 w (fun r11 w6 => ∀ i12 : Int32, i12 = x3 + (-1) → ((wb_Br_tellReads_75 e0 mi Q n) x0 x1 x2 i12 w6 nc ns)))))))
set_option maxHeartbeats 4000000 in
set_option maxRecDepth 100000 in
theorem k_Br_tellReads_75 {p : Program} {l : Launch} {e : Env} {s : State} {m : MethodId} {args : Array Value} {below : List Frame} {meth : Method} {c : Code} {D : va_G} {AC : Nat → ClassId} {e0 mi : Nat} {A : Nat → Prop} {mc ms : Nat} {Q : Wd → Prop} (C : Cx p l s m args meth c D AC e0 mi A n_Br_tellReads b_Br_tellReads 5 none) : ∀ (n : Nat) (x0 : Nat) (x1 : Int32) (x2 : Int32) (x3 : Int32) (w : Wd) (nc ns : Nat), wb_Br_tellReads_75 e0 mi Q n x0 x1 x2 x3 w nc ns → ∀ (H : Heap) (locs : List Loc) (cells slots : Nat) (ls : Array Slot), HW D cls8 FTc AC A s.heap H locs w → lv_has ls 5 [(0, va_rf (some x0)), (1, .int x1), (2, .int x2), (3, .int x3)] → cells + nc ≤ mc → slots + ns ≤ ms → W p l e { frames := 8, cells := mc, slots := ms, locals := 192 } s m args below meth c H locs cells slots (vx_MQ below (QQ D AC A (fun v w9 => v = none ∧ Q w9)) (XX D AC A (fun _ _ => False)) args s mc ms A) (F0 m 75 ls []) := by
  obtain ⟨hl0, hx, hb, hr, ht, hown, hlocks, hnm, hml, hex, hK, hA, hZ, hV⟩ := id C
  intro n
  induction n with
  | zero =>
    intro x0 x1 x2 x3 w nc ns hq
    exact hq.elim
  | succ n ih =>
    intro x0 x1 x2 x3 w nc ns hq H locs cells slots ls hW hl hc hs
    have hK75 := ih
    unfold wb_Br_tellReads_75 at hq
    refine lv_iload_n hx hb d_Br_tellReads_75 rfl (lv_at hl 3 rfl) ?_
    refine lv_iload_n hx hb d_Br_tellReads_76 rfl (lv_at hl 2 rfl) ?_
    refine lv_icmp_lt (tgt := 95) hx hb d_Br_tellReads_77 (by decide) (fun c1 => ?_) (fun c1 => ?_)
    · have hq := hq.1 c1
      exact bw_vret C hW ⟨rfl, hq⟩ d_Br_tellReads_95 (Nat.le_trans (Nat.le_add_right _ _) hc) (Nat.le_trans (Nat.le_add_right _ _) hs)
    · have hq := hq.2 c1
      refine bw_aload_n hx hb d_Br_tellReads_80 rfl (lv_at hl 0 rfl) ?_
      obtain ⟨t2, hq⟩ := hq
      refine bw_getR hx hb ht in_Br hown hK hW rfl t2 (by decide) rfl 4 (by decide) rfl (ht _ m_63) (fun _ h => h) d_Br_tellReads_81 ?_
      refine lv_iload_n hx hb d_Br_tellReads_84 rfl (lv_at hl 3 rfl) ?_
      obtain ⟨a3, ea3, hq⟩ := hq
      obtain ⟨t4, hq⟩ := hq
      refine bw_callV (As := [.int x3]) (rest := []) C hW ci_Al_remove m_559 m_560 m_561 d_Br_tellReads_85 ea3 t4 (by decide) rfl rfl rfl hl.1 (by decide) ⟨Nat.le_of_ble_eq_true rfl, Nat.le_of_ble_eq_true rfl⟩ ⟨Nat.le_trans (Nat.add_le_add_left (Nat.zero_le _) _) hc, Nat.le_trans (Nat.add_le_add_left (Nat.zero_le _) _) hs⟩ (c_Al_remove hl0 _ _ _ hq) (fun _ _ _ _ _ _ h => h.elim) (fun v5 w6 H locs hv hW => ?_)
      obtain ⟨r11, rfl, hq⟩ := hv
      have hc := bw_bud0 hc
      have hs := bw_bud0 hs
      refine W.eq (g2 := F0 m 88 ls [va_rf r11]) rfl ?_
      refine lv_pop hx hb d_Br_tellReads_88 (bw_cat _) ?_
      obtain ⟨i12, ei12⟩ : ∃ y : Int32, y = x3 + (-1) := ⟨_, rfl⟩
      have hq := hq i12 ei12
      refine lv_iinc (v := i12) (lv' := [(3, .int i12), (0, va_rf (some x0)), (1, .int x1), (2, .int x2)]) hx hb d_Br_tellReads_89 hl (k := 3) rfl (by rw [ei12]; rfl) (by decide) (by simp [bw_cat, cat_i, cat_j]) (fun ls hl => ?_)
      refine lv_goto (tgt := 75) hx hb d_Br_tellReads_92 (by decide) ?_
      exact hK75 _ _ _ _ _ _ _ hq _ _ _ _ _ hW (lv_sub hl [1, 2, 3, 0] rfl) hc hs
def wb_Br_tellReads_12 (e0 mi : Nat) (Q : Wd → Prop) : Nat → Nat → Int32 → Int32 → Int32 → Wd → Nat → Nat → Prop
  | 0, _, _, _, _, _, _, _ => False
  | n + 1, x0, x1, x2, x3, w, nc, ns => (x1 ≤ x3 → (∀ i2 : Int32, i2 = x1 - (1 : Int32) → (∃ n3 : Nat, wb_Br_tellReads_75 e0 mi Q n3 x0 x1 x2 i2 w nc ns))) ∧ (¬ x1 ≤ x3 → (bw_is w x0 5 ∧ (∃ a5 : Nat, (wR w x0 4) = some a5 ∧ (bw_is w a5 7 ∧ (wp_Al_get e0 mi a5 x3 w (fun r13 w8 => (∀ a15, r13 = some a15 → bw_is w8 a15 1) ∧ (∃ a16 : Nat, r13 = some a16 ∧ (bw_is w8 a16 1 ∧ (bw_is w8 x0 5 ∧ ((¬ (wI w8 a16 0) = (wI w8 x0 7) → (∃ a20 : Nat, (wR w8 x0 4) = some a20 ∧ (bw_is w8 a20 7 ∧ (wp_Al_set e0 mi a20 x2 r13 w8 (fun r28 w23 => ∀ i29 : Int32, i29 = x2 + 1 → (wb_Br_tellReads_65 e0 mi (wb_Br_tellReads_12 e0 mi Q n) Q x0 x1 i29 x3 r13 w23 nc ns)))))) ∧ ((wI w8 a16 0) = (wI w8 x0 7) → (∃ k32 k33 : Nat, k32 ≤ nc ∧ k33 ≤ ns ∧ wp_Br_tell e0 mi x0 r13 w8 k32 k33 (fun w31 => wb_Br_tellReads_65 e0 mi (wb_Br_tellReads_12 e0 mi Q n) Q x0 x1 x2 x3 r13 w31 (nc - k32) (ns - k33))))))))))))))
set_option maxHeartbeats 4000000 in
set_option maxRecDepth 100000 in
theorem k_Br_tellReads_12 {p : Program} {l : Launch} {e : Env} {s : State} {m : MethodId} {args : Array Value} {below : List Frame} {meth : Method} {c : Code} {D : va_G} {AC : Nat → ClassId} {e0 mi : Nat} {A : Nat → Prop} {mc ms : Nat} {Q : Wd → Prop} (C : Cx p l s m args meth c D AC e0 mi A n_Br_tellReads b_Br_tellReads 5 none) : ∀ (n : Nat) (x0 : Nat) (x1 : Int32) (x2 : Int32) (x3 : Int32) (w : Wd) (nc ns : Nat), wb_Br_tellReads_12 e0 mi Q n x0 x1 x2 x3 w nc ns → ∀ (H : Heap) (locs : List Loc) (cells slots : Nat) (ls : Array Slot), HW D cls8 FTc AC A s.heap H locs w → lv_has ls 5 [(0, va_rf (some x0)), (1, .int x1), (2, .int x2), (3, .int x3)] → cells + nc ≤ mc → slots + ns ≤ ms → W p l e { frames := 8, cells := mc, slots := ms, locals := 192 } s m args below meth c H locs cells slots (vx_MQ below (QQ D AC A (fun v w9 => v = none ∧ Q w9)) (XX D AC A (fun _ _ => False)) args s mc ms A) (F0 m 12 ls []) := by
  obtain ⟨hl0, hx, hb, hr, ht, hown, hlocks, hnm, hml, hex, hK, hA, hZ, hV⟩ := id C
  intro n
  induction n with
  | zero =>
    intro x0 x1 x2 x3 w nc ns hq
    exact hq.elim
  | succ n ih =>
    intro x0 x1 x2 x3 w nc ns hq H locs cells slots ls hW hl hc hs
    have hK12 := ih
    unfold wb_Br_tellReads_12 at hq
    refine lv_iload_n hx hb d_Br_tellReads_12 rfl (lv_at hl 3 rfl) ?_
    refine lv_iload_n hx hb d_Br_tellReads_13 rfl (lv_at hl 1 rfl) ?_
    refine lv_icmp_ge (tgt := 71) hx hb d_Br_tellReads_14 (by decide) (fun c1 => ?_) (fun c1 => ?_)
    · have hq := hq.1 c1
      refine lv_iload_n hx hb d_Br_tellReads_71 rfl (lv_at hl 1 rfl) ?_
      refine lv_iconst (v := 1) hx hb d_Br_tellReads_72 (by decide) ?_
      refine lv_isub hx hb d_Br_tellReads_73 ?_
      refine lv_topi (fun i2 ei2 => ?_)
      have hq := hq i2 ei2
      refine lv_istore_n (i := 3) (lv' := [(3, .int i2), (0, va_rf (some x0)), (1, .int x1), (2, .int x2)]) hx hb d_Br_tellReads_74 rfl hl (by decide) (by simp [bw_cat, cat_i, cat_j]) (fun ls hl => ?_)
      obtain ⟨n3, hq⟩ := hq
      exact k_Br_tellReads_75 C  n3 _ _ _ _ _ _ _ hq _ _ _ _ _ hW (lv_sub hl [1, 2, 3, 0] rfl) hc hs
    · have hq := hq.2 c1
      refine bw_aload_n hx hb d_Br_tellReads_17 rfl (lv_at hl 0 rfl) ?_
      obtain ⟨t4, hq⟩ := hq
      refine bw_getR hx hb ht in_Br hown hK hW rfl t4 (by decide) rfl 4 (by decide) rfl (ht _ m_63) (fun _ h => h) d_Br_tellReads_18 ?_
      refine lv_iload_n hx hb d_Br_tellReads_21 rfl (lv_at hl 3 rfl) ?_
      obtain ⟨a5, ea5, hq⟩ := hq
      obtain ⟨t6, hq⟩ := hq
      refine bw_callV (As := [.int x3]) (rest := []) C hW ci_Al_get m_99 m_100 m_101 d_Br_tellReads_22 ea5 t6 (by decide) rfl rfl rfl hl.1 (by decide) ⟨Nat.le_of_ble_eq_true rfl, Nat.le_of_ble_eq_true rfl⟩ ⟨Nat.le_trans (Nat.add_le_add_left (Nat.zero_le _) _) hc, Nat.le_trans (Nat.add_le_add_left (Nat.zero_le _) _) hs⟩ (c_Al_get hl0 _ _ _ hq) (fun _ _ _ _ _ _ h => h.elim) (fun v7 w8 H locs hv hW => ?_)
      obtain ⟨r13, rfl, hq⟩ := hv
      have hc := bw_bud0 hc
      have hs := bw_bud0 hs
      refine W.eq (g2 := F0 m 25 ls [va_rf r13]) rfl ?_
      obtain ⟨h14, hq⟩ := hq
      refine bw_cast C hW m_550 (cn := 1) rfl (by decide) (by decide +kernel) h14 d_Br_tellReads_25 ?_
      refine bw_astore (lv' := [(4, va_rf r13), (0, va_rf (some x0)), (1, .int x1), (2, .int x2), (3, .int x3)]) hx hb d_Br_tellReads_28 hl (by decide) (by simp [bw_cat, cat_i, cat_j]) (fun ls hl => ?_)
      refine bw_aload hx hb d_Br_tellReads_30 (lv_at hl 0 rfl) ?_
      obtain ⟨a16, ea16, hq⟩ := hq
      obtain ⟨t17, hq⟩ := hq
      refine bw_getI hx hb ht in_Ed hown hK hW ea16 t17 (by decide) rfl 0 (by decide) rfl (ht _ m_595) (fun _ h => h) d_Br_tellReads_32 ?_
      refine bw_aload_n hx hb d_Br_tellReads_35 rfl (lv_at hl 1 rfl) ?_
      obtain ⟨t18, hq⟩ := hq
      refine bw_getI hx hb ht in_Br hown hK hW rfl t18 (by decide) rfl 7 (by decide) rfl (ht _ m_66) (fun _ h => h) d_Br_tellReads_36 ?_
      refine lv_icmp_ne (tgt := 51) hx hb d_Br_tellReads_39 (by decide) (fun c19 => ?_) (fun c19 => ?_)
      · have hq := hq.1 c19
        refine bw_aload_n hx hb d_Br_tellReads_51 rfl (lv_at hl 1 rfl) ?_
        refine bw_getR hx hb ht in_Br hown hK hW rfl t18 (by decide) rfl 4 (by decide) rfl (ht _ m_63) (fun _ h => h) d_Br_tellReads_52 ?_
        refine lv_iload_n hx hb d_Br_tellReads_55 rfl (lv_at hl 3 rfl) ?_
        refine bw_aload hx hb d_Br_tellReads_56 (lv_at hl 0 rfl) ?_
        obtain ⟨a20, ea20, hq⟩ := hq
        obtain ⟨t21, hq⟩ := hq
        refine bw_callV (As := [.int x2, va_rf r13]) (rest := []) C hW ci_Al_set m_555 m_556 m_557 d_Br_tellReads_58 ea20 t21 (by decide) rfl rfl rfl hl.1 (by decide) ⟨Nat.le_of_ble_eq_true rfl, Nat.le_of_ble_eq_true rfl⟩ ⟨Nat.le_trans (Nat.add_le_add_left (Nat.zero_le _) _) hc, Nat.le_trans (Nat.add_le_add_left (Nat.zero_le _) _) hs⟩ (c_Al_set hl0 _ _ _ _ hq) (fun _ _ _ _ _ _ h => h.elim) (fun v22 w23 H locs hv hW => ?_)
        obtain ⟨r28, rfl, hq⟩ := hv
        have hc := bw_bud0 hc
        have hs := bw_bud0 hs
        refine W.eq (g2 := F0 m 61 ls [va_rf r28]) rfl ?_
        refine lv_pop hx hb d_Br_tellReads_61 (bw_cat _) ?_
        obtain ⟨i29, ei29⟩ : ∃ y : Int32, y = x2 + 1 := ⟨_, rfl⟩
        have hq := hq i29 ei29
        refine lv_iinc (v := i29) (lv' := [(2, .int i29), (4, va_rf r13), (0, va_rf (some x0)), (1, .int x1), (3, .int x3)]) hx hb d_Br_tellReads_62 hl (k := 3) rfl (by rw [ei29]; rfl) (by decide) (by simp [bw_cat, cat_i, cat_j]) (fun ls hl => ?_)
        exact k_Br_tellReads_65 C hK12 _ _ _ _ _ _ _ _ hq _ _ _ _ _ hW (lv_sub hl [2, 3, 0, 4, 1] rfl) hc hs
      · have hq := hq.2 c19
        refine bw_aload_n hx hb d_Br_tellReads_42 rfl (lv_at hl 1 rfl) ?_
        refine bw_aload hx hb d_Br_tellReads_43 (lv_at hl 0 rfl) ?_
        obtain ⟨k32, k33, h34, h35, hq⟩ := hq
        refine bw_callV (As := [va_rf r13]) (rest := []) C hW ci_Br_tell m_551 m_553 sel_Br_tell d_Br_tellReads_45 rfl t18 (by decide) rfl rfl rfl hl.1 (by decide) ⟨Nat.le_of_ble_eq_true rfl, Nat.le_of_ble_eq_true rfl⟩ ⟨Nat.le_trans (Nat.add_le_add_left h34 _) hc, Nat.le_trans (Nat.add_le_add_left h35 _) hs⟩ (c_Br_tell hl0 _ _ _ _ _ hq) (fun _ _ _ _ _ _ h => h.elim) (fun v30 w31 H locs hv hW => ?_)
        obtain ⟨rfl, hq⟩ := hv
        have hc := bw_bud hc h34
        have hs := bw_bud hs h35
        refine W.eq (g2 := F0 m 48 ls []) rfl ?_
        refine lv_goto (tgt := 65) hx hb d_Br_tellReads_48 (by decide) ?_
        exact k_Br_tellReads_65 C hK12 _ _ _ _ _ _ _ _ hq _ _ _ _ _ hW (lv_sub hl [1, 2, 3, 4, 0] rfl) hc hs
def wp_Br_tellReads (e0 mi : Nat) (x0 : Nat) (w : Wd) (nc ns : Nat) (Q : Wd → Prop) : Prop :=
  bw_is w x0 5 ∧ (∃ a2 : Nat, (wR w x0 4) = some a2 ∧ (bw_is w a2 7 ∧ (wp_Al_size e0 mi a2 w (fun i10 w5 => ∃ n11 : Nat, wb_Br_tellReads_12 e0 mi Q n11 x0 i10 (0 : Int32) (0 : Int32) w5 nc ns))))
set_option maxHeartbeats 4000000 in
set_option maxRecDepth 100000 in
theorem k_Br_tellReads_0 {p : Program} {l : Launch} {e : Env} {s : State} {m : MethodId} {args : Array Value} {below : List Frame} {meth : Method} {c : Code} {D : va_G} {AC : Nat → ClassId} {e0 mi : Nat} {A : Nat → Prop} {mc ms : Nat} {Q : Wd → Prop} (C : Cx p l s m args meth c D AC e0 mi A n_Br_tellReads b_Br_tellReads 5 none) (x0 : Nat) (w : Wd) (nc ns : Nat) (hq : wp_Br_tellReads e0 mi x0 w nc ns Q) : ∀ (H : Heap) (locs : List Loc) (cells slots : Nat) (ls : Array Slot), HW D cls8 FTc AC A s.heap H locs w → lv_has ls 5 [(0, va_rf (some x0))] → cells + nc ≤ mc → slots + ns ≤ ms → W p l e { frames := 8, cells := mc, slots := ms, locals := 192 } s m args below meth c H locs cells slots (vx_MQ below (QQ D AC A (fun v w9 => v = none ∧ Q w9)) (XX D AC A (fun _ _ => False)) args s mc ms A) (F0 m 0 ls []) := by
  obtain ⟨hl0, hx, hb, hr, ht, hown, hlocks, hnm, hml, hex, hK, hA, hZ, hV⟩ := id C
  intro H locs cells slots ls hW hl hc hs
  unfold wp_Br_tellReads at hq
  refine bw_aload_n hx hb d_Br_tellReads_0 rfl (lv_at hl 0 rfl) ?_
  obtain ⟨t1, hq⟩ := hq
  refine bw_getR hx hb ht in_Br hown hK hW rfl t1 (by decide) rfl 4 (by decide) rfl (ht _ m_63) (fun _ h => h) d_Br_tellReads_1 ?_
  obtain ⟨a2, ea2, hq⟩ := hq
  obtain ⟨t3, hq⟩ := hq
  refine bw_callV (As := []) (rest := []) C hW ci_Al_size m_91 m_92 m_93 d_Br_tellReads_4 ea2 t3 (by decide) rfl rfl rfl hl.1 (by decide) ⟨Nat.le_of_ble_eq_true rfl, Nat.le_of_ble_eq_true rfl⟩ ⟨Nat.le_trans (Nat.add_le_add_left (Nat.zero_le _) _) hc, Nat.le_trans (Nat.add_le_add_left (Nat.zero_le _) _) hs⟩ (c_Al_size hl0 _ _ hq) (fun _ _ _ _ _ _ h => h.elim) (fun v4 w5 H locs hv hW => ?_)
  obtain ⟨i10, rfl, hq⟩ := hv
  have hc := bw_bud0 hc
  have hs := bw_bud0 hs
  refine W.eq (g2 := F0 m 7 ls [.int i10]) rfl ?_
  refine lv_istore_n (i := 1) (lv' := [(1, .int i10), (0, va_rf (some x0))]) hx hb d_Br_tellReads_7 rfl hl (by decide) (by simp [bw_cat, cat_i, cat_j]) (fun ls hl => ?_)
  refine lv_iconst (v := 0) hx hb d_Br_tellReads_8 (by decide) ?_
  refine lv_istore_n (i := 2) (lv' := [(2, .int (0 : Int32)), (1, .int i10), (0, va_rf (some x0))]) hx hb d_Br_tellReads_9 rfl hl (by decide) (by simp [bw_cat, cat_i, cat_j]) (fun ls hl => ?_)
  refine lv_iconst (v := 0) hx hb d_Br_tellReads_10 (by decide) ?_
  refine lv_istore_n (i := 3) (lv' := [(3, .int (0 : Int32)), (2, .int (0 : Int32)), (1, .int i10), (0, va_rf (some x0))]) hx hb d_Br_tellReads_11 rfl hl (by decide) (by simp [bw_cat, cat_i, cat_j]) (fun ls hl => ?_)
  obtain ⟨n11, hq⟩ := hq
  exact k_Br_tellReads_12 C  n11 _ _ _ _ _ _ _ hq _ _ _ _ _ hW (lv_sub hl [3, 2, 1, 0] rfl) hc hs
theorem ci_Br_tellReads : CI n_Br_tellReads b_Br_tellReads 5 none 0 := ⟨m_549, m_1, by decide, by decide, by decide +kernel⟩
theorem sel_Br_tellReads : Cond.selects "BeltRows" n_Br_tellReads n_Br_tellReads ∈ TBL := List.mem_filter.mpr ⟨List.mem_append_left _ (List.mem_map.mpr ⟨(n_Br_tellReads, 9), by decide +kernel, rfl⟩), rfl⟩
theorem c_Br_tellReads {l : Launch} {D : va_G} {AC : Nat → ClassId} {e0 mi : Nat} {Q : Wd → Prop} (hl0 : l.stackTraces = false) (x0 : Nat) (w : Wd) (nc ns : Nat) (hq : wp_Br_tellReads e0 mi x0 w nc ns Q) : Ct l D AC e0 mi n_Br_tellReads (wy n_Br_tellReads b_Br_tellReads 5 none) 8 192 [va_rf (some x0)] w nc ns (fun v w9 => v = none ∧ Q w9) (fun _ _ => False) :=
  Ct.of hl0 (by decide) (by simp [lg_sl, bw_cat, cat_i, cat_j]) (fun p e s m args below meth c A ls C hW hl => k_Br_tellReads_0 C x0 w nc ns hq s.heap [] 0 0 ls hW (by simpa [lv_args, bw_cat, cat_i, cat_j] using hl) (Nat.le_of_eq (Nat.zero_add _)) (Nat.le_of_eq (Nat.zero_add _)))
def wb_Br_letOut_17 (e0 mi : Nat) (Q : Wd → Prop) (x0 : Nat) (x1 : Option Nat) (x2 : Option Nat) (w : Wd) (nc ns : Nat) : Prop :=
  Q w
set_option maxHeartbeats 4000000 in
set_option maxRecDepth 100000 in
theorem k_Br_letOut_17 {p : Program} {l : Launch} {e : Env} {s : State} {m : MethodId} {args : Array Value} {below : List Frame} {meth : Method} {c : Code} {D : va_G} {AC : Nat → ClassId} {e0 mi : Nat} {A : Nat → Prop} {mc ms : Nat} {Q : Wd → Prop} (C : Cx p l s m args meth c D AC e0 mi A n_Br_letOut b_Br_letOut 3 none) (x0 : Nat) (x1 : Option Nat) (x2 : Option Nat) (w : Wd) (nc ns : Nat) (hq : wb_Br_letOut_17 e0 mi Q x0 x1 x2 w nc ns) : ∀ (H : Heap) (locs : List Loc) (cells slots : Nat) (ls : Array Slot), HW D cls8 FTc AC A s.heap H locs w → lv_has ls 3 [(0, va_rf (some x0)), (1, va_rf x1), (2, va_rf x2)] → cells + nc ≤ mc → slots + ns ≤ ms → W p l e { frames := 8, cells := mc, slots := ms, locals := 192 } s m args below meth c H locs cells slots (vx_MQ below (QQ D AC A (fun v w9 => v = none ∧ Q w9)) (XX D AC A (fun _ _ => False)) args s mc ms A) (F0 m 17 ls []) := by
  obtain ⟨hl0, hx, hb, hr, ht, hown, hlocks, hnm, hml, hex, hK, hA, hZ, hV⟩ := id C
  intro H locs cells slots ls hW hl hc hs
  unfold wb_Br_letOut_17 at hq
  exact bw_vret C hW ⟨rfl, hq⟩ d_Br_letOut_17 (Nat.le_trans (Nat.le_add_right _ _) hc) (Nat.le_trans (Nat.le_add_right _ _) hs)
def wp_Br_letOut (e0 mi : Nat) (x0 : Nat) (x1 : Option Nat) (w : Wd) (nc ns : Nat) (Q : Wd → Prop) : Prop :=
  ∃ a1 : Nat, x1 = some a1 ∧ (bw_is w a1 0 ∧ (wp_Bt_itemAtEnd e0 mi a1 w (fun r9 w4 => (r9 = none → (wb_Br_letOut_17 e0 mi Q x0 x1 r9 w4 nc ns)) ∧ (¬ r9 = none → (bw_is w4 a1 0 ∧ (wp_Bt_wayOf e0 mi a1 r9 w4 (fun r18 w13 => (r18 = none → (∃ a20 : Nat, r9 = some a20 ∧ (bw_is w13 a20 2 ∧ (wp_It_leave e0 mi a20 (1 : Int32) w13 (fun w23 => bw_is w23 x0 5 ∧ (∃ a30 : Nat, (wR w23 x0 5) = some a30 ∧ (bw_is w23 a30 7 ∧ (∃ k34 k35 : Nat, k34 ≤ nc ∧ k35 ≤ ns ∧ wp_Al_add e0 mi a30 r9 w23 k34 k35 (fun i38 w33 => bw_is w33 x0 5 ∧ (bw_is w33 a20 2 ∧ (1 ≤ (nc - k34) ∧ 4 ≤ (ns - k35) ∧ ∀ q41 : Nat, q41 ∉ wL (sI w33 x0 8 ((wI w33 x0 8) + ((wI w33 x0 7) - (wI w33 a20 2)))) → ∀ w45 : Wd, w45 = bw_new (sI w33 x0 8 ((wI w33 x0 8) + ((wI w33 x0 7) - (wI w33 a20 2)))) q41 1 0 → (bw_is w45 a1 0 ∧ (wp_Ed_init e0 mi q41 (wI w45 x0 7) (1 : Int32) (wI w45 a20 0) (wI w45 a1 0) w45 (fun w49 => bw_is w49 x0 5 ∧ (∃ k58 k59 : Nat, k58 ≤ ((nc - k34) - 1) ∧ k59 ≤ ((ns - k35) - 4) ∧ wp_Br_tell e0 mi x0 (some q41) w49 k58 k59 (fun w57 => Q w57)))))))))))))))) ∧ (¬ r18 = none → (wb_Br_letOut_17 e0 mi Q x0 x1 r9 w13 nc ns)))))))))
set_option maxHeartbeats 4000000 in
set_option maxRecDepth 100000 in
theorem k_Br_letOut_0 {p : Program} {l : Launch} {e : Env} {s : State} {m : MethodId} {args : Array Value} {below : List Frame} {meth : Method} {c : Code} {D : va_G} {AC : Nat → ClassId} {e0 mi : Nat} {A : Nat → Prop} {mc ms : Nat} {Q : Wd → Prop} (C : Cx p l s m args meth c D AC e0 mi A n_Br_letOut b_Br_letOut 3 none) (x0 : Nat) (x1 : Option Nat) (w : Wd) (nc ns : Nat) (hq : wp_Br_letOut e0 mi x0 x1 w nc ns Q) : ∀ (H : Heap) (locs : List Loc) (cells slots : Nat) (ls : Array Slot), HW D cls8 FTc AC A s.heap H locs w → lv_has ls 3 [(0, va_rf (some x0)), (1, va_rf x1)] → cells + nc ≤ mc → slots + ns ≤ ms → W p l e { frames := 8, cells := mc, slots := ms, locals := 192 } s m args below meth c H locs cells slots (vx_MQ below (QQ D AC A (fun v w9 => v = none ∧ Q w9)) (XX D AC A (fun _ _ => False)) args s mc ms A) (F0 m 0 ls []) := by
  obtain ⟨hl0, hx, hb, hr, ht, hown, hlocks, hnm, hml, hex, hK, hA, hZ, hV⟩ := id C
  intro H locs cells slots ls hW hl hc hs
  unfold wp_Br_letOut at hq
  refine bw_aload_n hx hb d_Br_letOut_0 rfl (lv_at hl 1 rfl) ?_
  obtain ⟨a1, ea1, hq⟩ := hq
  obtain ⟨t2, hq⟩ := hq
  refine bw_callV (As := []) (rest := []) C hW ci_Bt_itemAtEnd m_572 m_573 m_574 d_Br_letOut_1 ea1 t2 (by decide) rfl rfl rfl hl.1 (by decide) ⟨Nat.le_of_ble_eq_true rfl, Nat.le_of_ble_eq_true rfl⟩ ⟨Nat.le_trans (Nat.add_le_add_left (Nat.zero_le _) _) hc, Nat.le_trans (Nat.add_le_add_left (Nat.zero_le _) _) hs⟩ (c_Bt_itemAtEnd hl0 _ _ hq) (fun _ _ _ _ _ _ h => h.elim) (fun v3 w4 H locs hv hW => ?_)
  obtain ⟨r9, rfl, hq⟩ := hv
  have hc := bw_bud0 hc
  have hs := bw_bud0 hs
  refine W.eq (g2 := F0 m 4 ls [va_rf r9]) rfl ?_
  refine bw_astore_n (i := 2) (lv' := [(2, va_rf r9), (0, va_rf (some x0)), (1, va_rf x1)]) hx hb d_Br_letOut_4 rfl hl (by decide) (by simp [bw_cat, cat_i, cat_j]) (fun ls hl => ?_)
  refine bw_aload_n hx hb d_Br_letOut_5 rfl (lv_at hl 0 rfl) ?_
  refine bw_ifnull (tgt := 17) hx hb d_Br_letOut_6 (by decide) (fun c10 => ?_) (fun c10 => ?_)
  · have hq := hq.1 c10
    exact k_Br_letOut_17 C  _ _ _ _ _ _ hq _ _ _ _ _ hW (lv_sub hl [1, 2, 0] rfl) hc hs
  · have hq := hq.2 c10
    refine bw_aload_n hx hb d_Br_letOut_9 rfl (lv_at hl 2 rfl) ?_
    refine bw_aload_n hx hb d_Br_letOut_10 rfl (lv_at hl 0 rfl) ?_
    obtain ⟨t11, hq⟩ := hq
    refine bw_callV (As := [va_rf r9]) (rest := []) C hW ci_Bt_wayOf m_576 m_577 m_578 d_Br_letOut_11 ea1 t11 (by decide) rfl rfl rfl hl.1 (by decide) ⟨Nat.le_of_ble_eq_true rfl, Nat.le_of_ble_eq_true rfl⟩ ⟨Nat.le_trans (Nat.add_le_add_left (Nat.zero_le _) _) hc, Nat.le_trans (Nat.add_le_add_left (Nat.zero_le _) _) hs⟩ (c_Bt_wayOf hl0 _ _ _ hq) (fun _ _ _ _ _ _ h => h.elim) (fun v12 w13 H locs hv hW => ?_)
    obtain ⟨r18, rfl, hq⟩ := hv
    have hc := bw_bud0 hc
    have hs := bw_bud0 hs
    refine W.eq (g2 := F0 m 14 ls [va_rf r18]) rfl ?_
    refine bw_ifnull (tgt := 18) hx hb d_Br_letOut_14 (by decide) (fun c19 => ?_) (fun c19 => ?_)
    · have hq := hq.1 c19
      refine bw_aload_n hx hb d_Br_letOut_18 rfl (lv_at hl 0 rfl) ?_
      refine lv_iconst (v := 1) hx hb d_Br_letOut_19 (by decide) ?_
      obtain ⟨a20, ea20, hq⟩ := hq
      obtain ⟨t21, hq⟩ := hq
      refine bw_callV (As := [.int (1 : Int32)]) (rest := []) C hW ci_It_leave m_581 m_582 m_583 d_Br_letOut_20 ea20 t21 (by decide) rfl rfl rfl hl.1 (by decide) ⟨Nat.le_of_ble_eq_true rfl, Nat.le_of_ble_eq_true rfl⟩ ⟨Nat.le_trans (Nat.add_le_add_left (Nat.zero_le _) _) hc, Nat.le_trans (Nat.add_le_add_left (Nat.zero_le _) _) hs⟩ (c_It_leave hl0 _ _ _ hq) (fun _ _ _ _ _ _ h => h.elim) (fun v22 w23 H locs hv hW => ?_)
      obtain ⟨rfl, hq⟩ := hv
      have hc := bw_bud0 hc
      have hs := bw_bud0 hs
      refine W.eq (g2 := F0 m 23 ls []) rfl ?_
      refine bw_aload_n hx hb d_Br_letOut_23 rfl (lv_at hl 1 rfl) ?_
      obtain ⟨t29, hq⟩ := hq
      refine bw_getR hx hb ht in_Br hown hK hW rfl t29 (by decide) rfl 5 (by decide) rfl (ht _ m_64) (fun _ h => h) d_Br_letOut_24 ?_
      refine bw_aload_n hx hb d_Br_letOut_27 rfl (lv_at hl 0 rfl) ?_
      obtain ⟨a30, ea30, hq⟩ := hq
      obtain ⟨t31, hq⟩ := hq
      obtain ⟨k34, k35, h36, h37, hq⟩ := hq
      refine bw_callV (As := [va_rf r9]) (rest := []) C hW ci_Al_add m_274 m_275 m_276 d_Br_letOut_28 ea30 t31 (by decide) rfl rfl rfl hl.1 (by decide) ⟨Nat.le_of_ble_eq_true rfl, Nat.le_of_ble_eq_true rfl⟩ ⟨Nat.le_trans (Nat.add_le_add_left h36 _) hc, Nat.le_trans (Nat.add_le_add_left h37 _) hs⟩ (c_Al_add hl0 _ _ _ _ _ hq) (fun _ _ _ _ _ _ h => h.elim) (fun v32 w33 H locs hv hW => ?_)
      obtain ⟨i38, rfl, hq⟩ := hv
      have hc := bw_bud hc h36
      have hs := bw_bud hs h37
      refine W.eq (g2 := F0 m 31 ls [.int i38]) rfl ?_
      refine lv_pop hx hb d_Br_letOut_31 rfl ?_
      refine bw_aload_n hx hb d_Br_letOut_32 rfl (lv_at hl 1 rfl) ?_
      refine lv_dup hx hb d_Br_letOut_33 (bw_cat _) ?_
      obtain ⟨t39, hq⟩ := hq
      refine bw_getI hx hb ht in_Br hown hK hW rfl t39 (by decide) rfl 8 (by decide) rfl (ht _ m_67) (fun _ h => h) d_Br_letOut_34 ?_
      refine bw_aload_n hx hb d_Br_letOut_37 rfl (lv_at hl 1 rfl) ?_
      refine bw_getI hx hb ht in_Br hown hK hW rfl t39 (by decide) rfl 7 (by decide) rfl (ht _ m_66) (fun _ h => h) d_Br_letOut_38 ?_
      refine bw_aload_n hx hb d_Br_letOut_41 rfl (lv_at hl 0 rfl) ?_
      obtain ⟨t40, hq⟩ := hq
      refine bw_getI hx hb ht in_It hown hK hW ea20 t40 (by decide) rfl 2 (by decide) rfl (ht _ m_448) (fun _ h => h) d_Br_letOut_42 ?_
      refine lv_isub hx hb d_Br_letOut_45 ?_
      refine lv_iadd hx hb d_Br_letOut_46 ?_
      refine bw_putI hx hb ht in_Br y_Br yk_Br nm_Br hown hK hW rfl t39 (by decide) rfl 8 (by decide) rfl (ht _ m_67) (fun _ h => h) (Or.inl rfl) rfl rfl d_Br_letOut_47 (fun H locs hW => ?_)
      refine bw_aload_n hx hb d_Br_letOut_50 rfl (lv_at hl 1 rfl) ?_
      obtain ⟨h42, h43, hq⟩ := hq
      refine bw_mk (ci := 1) hx hb ht in_Ed y_Ed yk_Ed hown (ht _ m_550) (ht _ m_589) (ht _ m_23) hK hW hA (by decide) (by rfl) df_Ed (Nat.le_trans (Nat.add_le_add_left h42 _) hc) (Nat.le_trans (Nat.add_le_add_left h43 _) hs) d_Br_letOut_51 (fun q41 H n44 hW => ?_)
      obtain ⟨w45, ew45⟩ : ∃ z : Wd, z = bw_new (sI w33 x0 8 ((wI w33 x0 8) + ((wI w33 x0 7) - (wI w33 a20 2)))) q41 1 0 := ⟨_, rfl⟩
      rw [← ew45] at hW
      have hq := hq q41 n44 w45 ew45
      have hc := bw_bud hc h42
      have hs := bw_bud hs h43
      have t39 : bw_is w45 x0 5 := by rw [ew45]; exact bw_is_new n44 t39
      have t40 : bw_is w45 a20 2 := by rw [ew45]; exact bw_is_new n44 t40
      have t46 : bw_is w45 q41 1 := by rw [ew45]; exact bw_is_self _ _ _ _
      refine lv_dup hx hb d_Br_letOut_54 (bw_cat _) ?_
      refine bw_aload_n hx hb d_Br_letOut_55 rfl (lv_at hl 1 rfl) ?_
      refine bw_getI hx hb ht in_Br hown hK hW rfl t39 (by decide) rfl 7 (by decide) rfl (ht _ m_66) (fun _ h => h) d_Br_letOut_56 ?_
      refine lv_iconst (v := 1) hx hb d_Br_letOut_59 (by decide) ?_
      refine bw_aload_n hx hb d_Br_letOut_60 rfl (lv_at hl 0 rfl) ?_
      refine bw_getI hx hb ht in_It hown hK hW ea20 t40 (by decide) rfl 0 (by decide) rfl (ht _ m_444) (fun _ h => h) d_Br_letOut_61 ?_
      refine bw_aload_n hx hb d_Br_letOut_64 rfl (lv_at hl 2 rfl) ?_
      obtain ⟨t47, hq⟩ := hq
      refine bw_getI hx hb ht in_Bt hown hK hW ea1 t47 (by decide) rfl 0 (by decide) rfl (ht _ m_238) (fun _ h => h) d_Br_letOut_65 ?_
      refine bw_callI (As := [.int (wI w45 x0 7), .int (1 : Int32), .int (wI w45 a20 0), .int (wI w45 a1 0)]) (rest := [va_rf (some q41), va_rf (some x0)]) C hW ci_Ed_init rfl m_590 m_591 d_Br_letOut_68 rfl rfl hl.1 (by simp [bw_cat, cat_i, cat_j]) ⟨Nat.le_of_ble_eq_true rfl, Nat.le_of_ble_eq_true rfl⟩ ⟨Nat.le_trans (Nat.add_le_add_left (Nat.zero_le _) _) hc, Nat.le_trans (Nat.add_le_add_left (Nat.zero_le _) _) hs⟩ (c_Ed_init hl0 _ _ _ _ _ _ hq) (fun v48 w49 H locs hv hW => ?_)
      obtain ⟨rfl, hq⟩ := hv
      have hc := bw_bud0 hc
      have hs := bw_bud0 hs
      refine W.eq (g2 := F0 m 71 ls [va_rf (some q41), va_rf (some x0)]) rfl ?_
      obtain ⟨t55, hq⟩ := hq
      obtain ⟨k58, k59, h60, h61, hq⟩ := hq
      refine bw_callV (As := [va_rf (some q41)]) (rest := []) C hW ci_Br_tell m_551 m_553 sel_Br_tell d_Br_letOut_71 rfl t55 (by decide) rfl rfl rfl hl.1 (by decide) ⟨Nat.le_of_ble_eq_true rfl, Nat.le_of_ble_eq_true rfl⟩ ⟨Nat.le_trans (Nat.add_le_add_left h60 _) hc, Nat.le_trans (Nat.add_le_add_left h61 _) hs⟩ (c_Br_tell hl0 _ _ _ _ _ hq) (fun _ _ _ _ _ _ h => h.elim) (fun v56 w57 H locs hv hW => ?_)
      obtain ⟨rfl, hq⟩ := hv
      have hc := bw_bud hc h60
      have hs := bw_bud hs h61
      refine W.eq (g2 := F0 m 74 ls []) rfl ?_
      exact bw_vret C hW ⟨rfl, hq⟩ d_Br_letOut_74 (Nat.le_trans (Nat.le_add_right _ _) hc) (Nat.le_trans (Nat.le_add_right _ _) hs)
    · have hq := hq.2 c19
      exact k_Br_letOut_17 C  _ _ _ _ _ _ hq _ _ _ _ _ hW (lv_sub hl [1, 2, 0] rfl) hc hs
theorem ci_Br_letOut : CI n_Br_letOut b_Br_letOut 3 none 1 := ⟨m_571, m_1, by decide, by decide, by decide +kernel⟩
theorem sel_Br_letOut : Cond.selects "BeltRows" n_Br_letOut n_Br_letOut ∈ TBL := List.mem_filter.mpr ⟨List.mem_append_left _ (List.mem_map.mpr ⟨(n_Br_letOut, 9), by decide +kernel, rfl⟩), rfl⟩
theorem c_Br_letOut {l : Launch} {D : va_G} {AC : Nat → ClassId} {e0 mi : Nat} {Q : Wd → Prop} (hl0 : l.stackTraces = false) (x0 : Nat) (x1 : Option Nat) (w : Wd) (nc ns : Nat) (hq : wp_Br_letOut e0 mi x0 x1 w nc ns Q) : Ct l D AC e0 mi n_Br_letOut (wy n_Br_letOut b_Br_letOut 3 none) 8 192 [va_rf (some x0), va_rf x1] w nc ns (fun v w9 => v = none ∧ Q w9) (fun _ _ => False) :=
  Ct.of hl0 (by decide) (by simp [lg_sl, bw_cat, cat_i, cat_j]) (fun p e s m args below meth c A ls C hW hl => k_Br_letOut_0 C x0 x1 w nc ns hq s.heap [] 0 0 ls hW (by simpa [lv_args, bw_cat, cat_i, cat_j] using hl) (Nat.le_of_eq (Nat.zero_add _)) (Nat.le_of_eq (Nat.zero_add _)))
def wb_Br_passOnTo_40 (e0 mi : Nat) (Q : Wd → Prop) (x0 : Nat) (x1 : Option Nat) (x2 : Option Nat) (x3 : Option Nat) (x4 : Option Nat) (w : Wd) (nc ns : Nat) : Prop :=
  Q w
set_option maxHeartbeats 4000000 in
set_option maxRecDepth 100000 in
theorem k_Br_passOnTo_40 {p : Program} {l : Launch} {e : Env} {s : State} {m : MethodId} {args : Array Value} {below : List Frame} {meth : Method} {c : Code} {D : va_G} {AC : Nat → ClassId} {e0 mi : Nat} {A : Nat → Prop} {mc ms : Nat} {Q : Wd → Prop} (C : Cx p l s m args meth c D AC e0 mi A n_Br_passOnTo b_Br_passOnTo 5 none) (x0 : Nat) (x1 : Option Nat) (x2 : Option Nat) (x3 : Option Nat) (x4 : Option Nat) (w : Wd) (nc ns : Nat) (hq : wb_Br_passOnTo_40 e0 mi Q x0 x1 x2 x3 x4 w nc ns) : ∀ (H : Heap) (locs : List Loc) (cells slots : Nat) (ls : Array Slot), HW D cls8 FTc AC A s.heap H locs w → lv_has ls 5 [(0, va_rf (some x0)), (1, va_rf x1), (2, va_rf x2), (3, va_rf x3), (4, va_rf x4)] → cells + nc ≤ mc → slots + ns ≤ ms → W p l e { frames := 8, cells := mc, slots := ms, locals := 192 } s m args below meth c H locs cells slots (vx_MQ below (QQ D AC A (fun v w9 => v = none ∧ Q w9)) (XX D AC A (fun _ _ => False)) args s mc ms A) (F0 m 40 ls []) := by
  obtain ⟨hl0, hx, hb, hr, ht, hown, hlocks, hnm, hml, hex, hK, hA, hZ, hV⟩ := id C
  intro H locs cells slots ls hW hl hc hs
  unfold wb_Br_passOnTo_40 at hq
  exact bw_vret C hW ⟨rfl, hq⟩ d_Br_passOnTo_40 (Nat.le_trans (Nat.le_add_right _ _) hc) (Nat.le_trans (Nat.le_add_right _ _) hs)
def wp_Br_passOnTo (e0 mi : Nat) (x0 : Nat) (x1 : Option Nat) (w : Wd) (nc ns : Nat) (Q : Wd → Prop) : Prop :=
  bw_is w x0 5 ∧ (wp_Br_missingToRoom e0 mi x0 x1 w (fun i8 w3 => (i8 ≤ 0 → (bw_is w3 x0 5 ∧ (wp_Br_giverTo e0 mi x0 x1 w3 (fun r17 w12 => (¬ r17 = none → (∃ a19 : Nat, r17 = some a19 ∧ (bw_is w12 a19 0 ∧ (wp_Bt_itemAtEnd e0 mi a19 w12 (fun r27 w22 => bw_is w22 a19 0 ∧ (wp_Bt_wayInUse e0 mi a19 w22 (fun r35 w30 => (r27 = none → (wb_Br_passOnTo_40 e0 mi Q x0 x1 r17 r27 r35 w30 nc ns)) ∧ (¬ r27 = none → ((¬ r35 = none → (∃ a38 : Nat, r35 = some a38 ∧ (bw_is w30 a38 4 ∧ (bw_is (sI w30 a38 2 ((wI w30 a38 2) + (1 : Int32))) a19 0 ∧ (wp_Bt_letGo e0 mi a19 r27 (sI w30 a38 2 ((wI w30 a38 2) + (1 : Int32))) (fun w42 => ∃ a48 : Nat, x1 = some a48 ∧ (bw_is w42 a48 0 ∧ (wp_Bt_takeOn e0 mi a48 r27 w42 (fun w51 => 1 ≤ nc ∧ 4 ≤ ns ∧ ∀ q57 : Nat, q57 ∉ wL w51 → ∀ w61 : Wd, w61 = bw_new w51 q57 1 0 → (bw_is w61 x0 5 ∧ (∃ a64 : Nat, r27 = some a64 ∧ (bw_is w61 a64 2 ∧ (bw_is w61 a48 0 ∧ (wp_Ed_init e0 mi q57 (wI w61 x0 7) (2 : Int32) (wI w61 a64 0) (wI w61 a48 0) w61 (fun w68 => bw_is w68 x0 5 ∧ (∃ k77 k78 : Nat, k77 ≤ (nc - 1) ∧ k78 ≤ (ns - 4) ∧ wp_Br_tell e0 mi x0 (some q57) w68 k77 k78 (fun w76 => Q w76))))))))))))))))) ∧ (r35 = none → (wb_Br_passOnTo_40 e0 mi Q x0 x1 r17 r27 r35 w30 nc ns))))))))))) ∧ (r17 = none → (Q w12)))))) ∧ (¬ i8 ≤ 0 → (Q w3))))
set_option maxHeartbeats 4000000 in
set_option maxRecDepth 100000 in
theorem k_Br_passOnTo_0 {p : Program} {l : Launch} {e : Env} {s : State} {m : MethodId} {args : Array Value} {below : List Frame} {meth : Method} {c : Code} {D : va_G} {AC : Nat → ClassId} {e0 mi : Nat} {A : Nat → Prop} {mc ms : Nat} {Q : Wd → Prop} (C : Cx p l s m args meth c D AC e0 mi A n_Br_passOnTo b_Br_passOnTo 5 none) (x0 : Nat) (x1 : Option Nat) (w : Wd) (nc ns : Nat) (hq : wp_Br_passOnTo e0 mi x0 x1 w nc ns Q) : ∀ (H : Heap) (locs : List Loc) (cells slots : Nat) (ls : Array Slot), HW D cls8 FTc AC A s.heap H locs w → lv_has ls 5 [(0, va_rf (some x0)), (1, va_rf x1)] → cells + nc ≤ mc → slots + ns ≤ ms → W p l e { frames := 8, cells := mc, slots := ms, locals := 192 } s m args below meth c H locs cells slots (vx_MQ below (QQ D AC A (fun v w9 => v = none ∧ Q w9)) (XX D AC A (fun _ _ => False)) args s mc ms A) (F0 m 0 ls []) := by
  obtain ⟨hl0, hx, hb, hr, ht, hown, hlocks, hnm, hml, hex, hK, hA, hZ, hV⟩ := id C
  intro H locs cells slots ls hW hl hc hs
  unfold wp_Br_passOnTo at hq
  refine bw_aload_n hx hb d_Br_passOnTo_0 rfl (lv_at hl 0 rfl) ?_
  refine bw_aload_n hx hb d_Br_passOnTo_1 rfl (lv_at hl 1 rfl) ?_
  obtain ⟨t1, hq⟩ := hq
  refine bw_callV (As := [va_rf x1]) (rest := []) C hW ci_Br_missingToRoom m_428 m_430 sel_Br_missingToRoom d_Br_passOnTo_2 rfl t1 (by decide) rfl rfl rfl hl.1 (by decide) ⟨Nat.le_of_ble_eq_true rfl, Nat.le_of_ble_eq_true rfl⟩ ⟨Nat.le_trans (Nat.add_le_add_left (Nat.zero_le _) _) hc, Nat.le_trans (Nat.add_le_add_left (Nat.zero_le _) _) hs⟩ (c_Br_missingToRoom hl0 _ _ _ hq) (fun _ _ _ _ _ _ h => h.elim) (fun v2 w3 H locs hv hW => ?_)
  obtain ⟨i8, rfl, hq⟩ := hv
  have hc := bw_bud0 hc
  have hs := bw_bud0 hs
  refine W.eq (g2 := F0 m 5 ls [.int i8]) rfl ?_
  refine lv_if_le (tgt := 9) hx hb d_Br_passOnTo_5 (by decide) (fun c9 => ?_) (fun c9 => ?_)
  · have hq := hq.1 c9
    refine bw_aload_n hx hb d_Br_passOnTo_9 rfl (lv_at hl 0 rfl) ?_
    refine bw_aload_n hx hb d_Br_passOnTo_10 rfl (lv_at hl 1 rfl) ?_
    obtain ⟨t10, hq⟩ := hq
    refine bw_callV (As := [va_rf x1]) (rest := []) C hW ci_Br_giverTo m_615 m_617 sel_Br_giverTo d_Br_passOnTo_11 rfl t10 (by decide) rfl rfl rfl hl.1 (by decide) ⟨Nat.le_of_ble_eq_true rfl, Nat.le_of_ble_eq_true rfl⟩ ⟨Nat.le_trans (Nat.add_le_add_left (Nat.zero_le _) _) hc, Nat.le_trans (Nat.add_le_add_left (Nat.zero_le _) _) hs⟩ (c_Br_giverTo hl0 _ _ _ hq) (fun _ _ _ _ _ _ h => h.elim) (fun v11 w12 H locs hv hW => ?_)
    obtain ⟨r17, rfl, hq⟩ := hv
    have hc := bw_bud0 hc
    have hs := bw_bud0 hs
    refine W.eq (g2 := F0 m 14 ls [va_rf r17]) rfl ?_
    refine bw_astore_n (i := 2) (lv' := [(2, va_rf r17), (0, va_rf (some x0)), (1, va_rf x1)]) hx hb d_Br_passOnTo_14 rfl hl (by decide) (by simp [bw_cat, cat_i, cat_j]) (fun ls hl => ?_)
    refine bw_aload_n hx hb d_Br_passOnTo_15 rfl (lv_at hl 0 rfl) ?_
    refine bw_ifnonnull (tgt := 20) hx hb d_Br_passOnTo_16 (by decide) (fun c18 => ?_) (fun c18 => ?_)
    · have hq := hq.1 c18
      refine bw_aload_n hx hb d_Br_passOnTo_20 rfl (lv_at hl 0 rfl) ?_
      obtain ⟨a19, ea19, hq⟩ := hq
      obtain ⟨t20, hq⟩ := hq
      refine bw_callV (As := []) (rest := []) C hW ci_Bt_itemAtEnd m_572 m_573 m_574 d_Br_passOnTo_21 ea19 t20 (by decide) rfl rfl rfl hl.1 (by decide) ⟨Nat.le_of_ble_eq_true rfl, Nat.le_of_ble_eq_true rfl⟩ ⟨Nat.le_trans (Nat.add_le_add_left (Nat.zero_le _) _) hc, Nat.le_trans (Nat.add_le_add_left (Nat.zero_le _) _) hs⟩ (c_Bt_itemAtEnd hl0 _ _ hq) (fun _ _ _ _ _ _ h => h.elim) (fun v21 w22 H locs hv hW => ?_)
      obtain ⟨r27, rfl, hq⟩ := hv
      have hc := bw_bud0 hc
      have hs := bw_bud0 hs
      refine W.eq (g2 := F0 m 24 ls [va_rf r27]) rfl ?_
      refine bw_astore_n (i := 3) (lv' := [(3, va_rf r27), (2, va_rf r17), (0, va_rf (some x0)), (1, va_rf x1)]) hx hb d_Br_passOnTo_24 rfl hl (by decide) (by simp [bw_cat, cat_i, cat_j]) (fun ls hl => ?_)
      refine bw_aload_n hx hb d_Br_passOnTo_25 rfl (lv_at hl 1 rfl) ?_
      obtain ⟨t28, hq⟩ := hq
      refine bw_callV (As := []) (rest := []) C hW ci_Bt_wayInUse m_619 m_620 m_621 d_Br_passOnTo_26 ea19 t28 (by decide) rfl rfl rfl hl.1 (by decide) ⟨Nat.le_of_ble_eq_true rfl, Nat.le_of_ble_eq_true rfl⟩ ⟨Nat.le_trans (Nat.add_le_add_left (Nat.zero_le _) _) hc, Nat.le_trans (Nat.add_le_add_left (Nat.zero_le _) _) hs⟩ (c_Bt_wayInUse hl0 _ _ hq) (fun _ _ _ _ _ _ h => h.elim) (fun v29 w30 H locs hv hW => ?_)
      obtain ⟨r35, rfl, hq⟩ := hv
      have hc := bw_bud0 hc
      have hs := bw_bud0 hs
      refine W.eq (g2 := F0 m 29 ls [va_rf r35]) rfl ?_
      refine bw_astore (lv' := [(4, va_rf r35), (3, va_rf r27), (2, va_rf r17), (0, va_rf (some x0)), (1, va_rf x1)]) hx hb d_Br_passOnTo_29 hl (by decide) (by simp [bw_cat, cat_i, cat_j]) (fun ls hl => ?_)
      refine bw_aload_n hx hb d_Br_passOnTo_31 rfl (lv_at hl 1 rfl) ?_
      refine bw_ifnull (tgt := 40) hx hb d_Br_passOnTo_32 (by decide) (fun c36 => ?_) (fun c36 => ?_)
      · have hq := hq.1 c36
        exact k_Br_passOnTo_40 C  _ _ _ _ _ _ _ _ hq _ _ _ _ _ hW (lv_sub hl [3, 4, 2, 1, 0] rfl) hc hs
      · have hq := hq.2 c36
        refine bw_aload hx hb d_Br_passOnTo_35 (lv_at hl 0 rfl) ?_
        refine bw_ifnonnull (tgt := 41) hx hb d_Br_passOnTo_37 (by decide) (fun c37 => ?_) (fun c37 => ?_)
        · have hq := hq.1 c37
          refine bw_aload hx hb d_Br_passOnTo_41 (lv_at hl 0 rfl) ?_
          refine lv_dup hx hb d_Br_passOnTo_43 (bw_cat _) ?_
          obtain ⟨a38, ea38, hq⟩ := hq
          obtain ⟨t39, hq⟩ := hq
          refine bw_getI hx hb ht in_Wy hown hK hW ea38 t39 (by decide) rfl 2 (by decide) rfl (ht _ m_228) (fun _ h => h) d_Br_passOnTo_44 ?_
          refine lv_iconst (v := 1) hx hb d_Br_passOnTo_47 (by decide) ?_
          refine lv_iadd hx hb d_Br_passOnTo_48 ?_
          refine bw_putI hx hb ht in_Wy y_Wy yk_Wy nm_Wy hown hK hW ea38 t39 (by decide) rfl 2 (by decide) rfl (ht _ m_228) (fun _ h => h) (Or.inl rfl) rfl rfl d_Br_passOnTo_49 (fun H locs hW => ?_)
          refine bw_aload_n hx hb d_Br_passOnTo_52 rfl (lv_at hl 2 rfl) ?_
          refine bw_aload_n hx hb d_Br_passOnTo_53 rfl (lv_at hl 1 rfl) ?_
          obtain ⟨t40, hq⟩ := hq
          refine bw_callV (As := [va_rf r27]) (rest := []) C hW ci_Bt_letGo m_629 m_586 m_587 d_Br_passOnTo_54 ea19 t40 (by decide) rfl rfl rfl hl.1 (by decide) ⟨Nat.le_of_ble_eq_true rfl, Nat.le_of_ble_eq_true rfl⟩ ⟨Nat.le_trans (Nat.add_le_add_left (Nat.zero_le _) _) hc, Nat.le_trans (Nat.add_le_add_left (Nat.zero_le _) _) hs⟩ (c_Bt_letGo hl0 _ _ _ hq) (fun _ _ _ _ _ _ h => h.elim) (fun v41 w42 H locs hv hW => ?_)
          obtain ⟨rfl, hq⟩ := hv
          have hc := bw_bud0 hc
          have hs := bw_bud0 hs
          refine W.eq (g2 := F0 m 57 ls []) rfl ?_
          refine bw_aload_n hx hb d_Br_passOnTo_57 rfl (lv_at hl 4 rfl) ?_
          refine bw_aload_n hx hb d_Br_passOnTo_58 rfl (lv_at hl 1 rfl) ?_
          obtain ⟨a48, ea48, hq⟩ := hq
          obtain ⟨t49, hq⟩ := hq
          refine bw_callV (As := [va_rf r27]) (rest := []) C hW ci_Bt_takeOn m_491 m_492 m_493 d_Br_passOnTo_59 ea48 t49 (by decide) rfl rfl rfl hl.1 (by decide) ⟨Nat.le_of_ble_eq_true rfl, Nat.le_of_ble_eq_true rfl⟩ ⟨Nat.le_trans (Nat.add_le_add_left (Nat.zero_le _) _) hc, Nat.le_trans (Nat.add_le_add_left (Nat.zero_le _) _) hs⟩ (c_Bt_takeOn hl0 _ _ _ hq) (fun _ _ _ _ _ _ h => h.elim) (fun v50 w51 H locs hv hW => ?_)
          obtain ⟨rfl, hq⟩ := hv
          have hc := bw_bud0 hc
          have hs := bw_bud0 hs
          refine W.eq (g2 := F0 m 62 ls []) rfl ?_
          refine bw_aload_n hx hb d_Br_passOnTo_62 rfl (lv_at hl 3 rfl) ?_
          obtain ⟨h58, h59, hq⟩ := hq
          refine bw_mk (ci := 1) hx hb ht in_Ed y_Ed yk_Ed hown (ht _ m_550) (ht _ m_589) (ht _ m_23) hK hW hA (by decide) (by rfl) df_Ed (Nat.le_trans (Nat.add_le_add_left h58 _) hc) (Nat.le_trans (Nat.add_le_add_left h59 _) hs) d_Br_passOnTo_63 (fun q57 H n60 hW => ?_)
          obtain ⟨w61, ew61⟩ : ∃ z : Wd, z = bw_new w51 q57 1 0 := ⟨_, rfl⟩
          rw [← ew61] at hW
          have hq := hq q57 n60 w61 ew61
          have hc := bw_bud hc h58
          have hs := bw_bud hs h59
          have t62 : bw_is w61 q57 1 := by rw [ew61]; exact bw_is_self _ _ _ _
          refine lv_dup hx hb d_Br_passOnTo_66 (bw_cat _) ?_
          refine bw_aload_n hx hb d_Br_passOnTo_67 rfl (lv_at hl 3 rfl) ?_
          obtain ⟨t63, hq⟩ := hq
          refine bw_getI hx hb ht in_Br hown hK hW rfl t63 (by decide) rfl 7 (by decide) rfl (ht _ m_66) (fun _ h => h) d_Br_passOnTo_68 ?_
          refine lv_iconst (v := 2) hx hb d_Br_passOnTo_71 (by decide) ?_
          refine bw_aload_n hx hb d_Br_passOnTo_72 rfl (lv_at hl 1 rfl) ?_
          obtain ⟨a64, ea64, hq⟩ := hq
          obtain ⟨t65, hq⟩ := hq
          refine bw_getI hx hb ht in_It hown hK hW ea64 t65 (by decide) rfl 0 (by decide) rfl (ht _ m_444) (fun _ h => h) d_Br_passOnTo_73 ?_
          refine bw_aload_n hx hb d_Br_passOnTo_76 rfl (lv_at hl 4 rfl) ?_
          obtain ⟨t66, hq⟩ := hq
          refine bw_getI hx hb ht in_Bt hown hK hW ea48 t66 (by decide) rfl 0 (by decide) rfl (ht _ m_238) (fun _ h => h) d_Br_passOnTo_77 ?_
          refine bw_callI (As := [.int (wI w61 x0 7), .int (2 : Int32), .int (wI w61 a64 0), .int (wI w61 a48 0)]) (rest := [va_rf (some q57), va_rf (some x0)]) C hW ci_Ed_init rfl m_590 m_591 d_Br_passOnTo_80 rfl rfl hl.1 (by simp [bw_cat, cat_i, cat_j]) ⟨Nat.le_of_ble_eq_true rfl, Nat.le_of_ble_eq_true rfl⟩ ⟨Nat.le_trans (Nat.add_le_add_left (Nat.zero_le _) _) hc, Nat.le_trans (Nat.add_le_add_left (Nat.zero_le _) _) hs⟩ (c_Ed_init hl0 _ _ _ _ _ _ hq) (fun v67 w68 H locs hv hW => ?_)
          obtain ⟨rfl, hq⟩ := hv
          have hc := bw_bud0 hc
          have hs := bw_bud0 hs
          refine W.eq (g2 := F0 m 83 ls [va_rf (some q57), va_rf (some x0)]) rfl ?_
          obtain ⟨t74, hq⟩ := hq
          obtain ⟨k77, k78, h79, h80, hq⟩ := hq
          refine bw_callV (As := [va_rf (some q57)]) (rest := []) C hW ci_Br_tell m_551 m_553 sel_Br_tell d_Br_passOnTo_83 rfl t74 (by decide) rfl rfl rfl hl.1 (by decide) ⟨Nat.le_of_ble_eq_true rfl, Nat.le_of_ble_eq_true rfl⟩ ⟨Nat.le_trans (Nat.add_le_add_left h79 _) hc, Nat.le_trans (Nat.add_le_add_left h80 _) hs⟩ (c_Br_tell hl0 _ _ _ _ _ hq) (fun _ _ _ _ _ _ h => h.elim) (fun v75 w76 H locs hv hW => ?_)
          obtain ⟨rfl, hq⟩ := hv
          have hc := bw_bud hc h79
          have hs := bw_bud hs h80
          refine W.eq (g2 := F0 m 86 ls []) rfl ?_
          exact bw_vret C hW ⟨rfl, hq⟩ d_Br_passOnTo_86 (Nat.le_trans (Nat.le_add_right _ _) hc) (Nat.le_trans (Nat.le_add_right _ _) hs)
        · have hq := hq.2 c37
          exact k_Br_passOnTo_40 C  _ _ _ _ _ _ _ _ hq _ _ _ _ _ hW (lv_sub hl [3, 4, 2, 1, 0] rfl) hc hs
    · have hq := hq.2 c18
      exact bw_vret C hW ⟨rfl, hq⟩ d_Br_passOnTo_19 (Nat.le_trans (Nat.le_add_right _ _) hc) (Nat.le_trans (Nat.le_add_right _ _) hs)
  · have hq := hq.2 c9
    exact bw_vret C hW ⟨rfl, hq⟩ d_Br_passOnTo_8 (Nat.le_trans (Nat.le_add_right _ _) hc) (Nat.le_trans (Nat.le_add_right _ _) hs)
theorem ci_Br_passOnTo : CI n_Br_passOnTo b_Br_passOnTo 5 none 1 := ⟨m_614, m_1, by decide, by decide, by decide +kernel⟩
theorem sel_Br_passOnTo : Cond.selects "BeltRows" n_Br_passOnTo n_Br_passOnTo ∈ TBL := List.mem_filter.mpr ⟨List.mem_append_left _ (List.mem_map.mpr ⟨(n_Br_passOnTo, 9), by decide +kernel, rfl⟩), rfl⟩
theorem c_Br_passOnTo {l : Launch} {D : va_G} {AC : Nat → ClassId} {e0 mi : Nat} {Q : Wd → Prop} (hl0 : l.stackTraces = false) (x0 : Nat) (x1 : Option Nat) (w : Wd) (nc ns : Nat) (hq : wp_Br_passOnTo e0 mi x0 x1 w nc ns Q) : Ct l D AC e0 mi n_Br_passOnTo (wy n_Br_passOnTo b_Br_passOnTo 5 none) 8 192 [va_rf (some x0), va_rf x1] w nc ns (fun v w9 => v = none ∧ Q w9) (fun _ _ => False) :=
  Ct.of hl0 (by decide) (by simp [lg_sl, bw_cat, cat_i, cat_j]) (fun p e s m args below meth c A ls C hW hl => k_Br_passOnTo_0 C x0 x1 w nc ns hq s.heap [] 0 0 ls hW (by simpa [lv_args, bw_cat, cat_i, cat_j] using hl) (Nat.le_of_eq (Nat.zero_add _)) (Nat.le_of_eq (Nat.zero_add _)))
def wb_Br_noteReads_119 (e0 mi : Nat) (K3 : Nat → Option Nat → Option Nat → Int32 → Int32 → Wd → Nat → Nat → Prop) (Q : Wd → Prop) (x0 : Nat) (x1 : Option Nat) (x2 : Option Nat) (x3 : Int32) (x4 : Int32) (x5 : Option Nat) (x6 : Int32) (w : Wd) (nc ns : Nat) : Prop :=
  ∀ i1 : Int32, i1 = x4 + 1 → (K3 x0 x1 x2 x3 i1 w nc ns)
set_option maxHeartbeats 4000000 in
set_option maxRecDepth 100000 in
theorem k_Br_noteReads_119 {p : Program} {l : Launch} {e : Env} {s : State} {m : MethodId} {args : Array Value} {below : List Frame} {meth : Method} {c : Code} {D : va_G} {AC : Nat → ClassId} {e0 mi : Nat} {A : Nat → Prop} {mc ms : Nat} {K3 : Nat → Option Nat → Option Nat → Int32 → Int32 → Wd → Nat → Nat → Prop} {Q : Wd → Prop} (C : Cx p l s m args meth c D AC e0 mi A n_Br_noteReads b_Br_noteReads 7 none) (hK3 : ∀ (x0 : Nat) (x1 : Option Nat) (x2 : Option Nat) (x3 : Int32) (x4 : Int32) (w : Wd) (nc ns : Nat), K3 x0 x1 x2 x3 x4 w nc ns → ∀ (H : Heap) (locs : List Loc) (cells slots : Nat) (ls : Array Slot), HW D cls8 FTc AC A s.heap H locs w → lv_has ls 7 [(0, va_rf (some x0)), (1, va_rf x1), (2, va_rf x2), (3, .int x3), (4, .int x4)] → cells + nc ≤ mc → slots + ns ≤ ms → W p l e { frames := 7, cells := mc, slots := ms, locals := 171 } s m args below meth c H locs cells slots (vx_MQ below (QQ D AC A (fun v w9 => v = none ∧ Q w9)) (XX D AC A (fun _ _ => False)) args s mc ms A) (F0 m 3 ls [])) (x0 : Nat) (x1 : Option Nat) (x2 : Option Nat) (x3 : Int32) (x4 : Int32) (x5 : Option Nat) (x6 : Int32) (w : Wd) (nc ns : Nat) (hq : wb_Br_noteReads_119 e0 mi K3 Q x0 x1 x2 x3 x4 x5 x6 w nc ns) : ∀ (H : Heap) (locs : List Loc) (cells slots : Nat) (ls : Array Slot), HW D cls8 FTc AC A s.heap H locs w → lv_has ls 7 [(0, va_rf (some x0)), (1, va_rf x1), (2, va_rf x2), (3, .int x3), (4, .int x4), (5, va_rf x5), (6, .int x6)] → cells + nc ≤ mc → slots + ns ≤ ms → W p l e { frames := 7, cells := mc, slots := ms, locals := 171 } s m args below meth c H locs cells slots (vx_MQ below (QQ D AC A (fun v w9 => v = none ∧ Q w9)) (XX D AC A (fun _ _ => False)) args s mc ms A) (F0 m 119 ls []) := by
  obtain ⟨hl0, hx, hb, hr, ht, hown, hlocks, hnm, hml, hex, hK, hA, hZ, hV⟩ := id C
  intro H locs cells slots ls hW hl hc hs
  unfold wb_Br_noteReads_119 at hq
  obtain ⟨i1, ei1⟩ : ∃ y : Int32, y = x4 + 1 := ⟨_, rfl⟩
  have hq := hq i1 ei1
  refine lv_iinc (v := i1) (lv' := [(4, .int i1), (0, va_rf (some x0)), (1, va_rf x1), (2, va_rf x2), (3, .int x3), (5, va_rf x5), (6, .int x6)]) hx hb d_Br_noteReads_119 hl (k := 4) rfl (by rw [ei1]; rfl) (by decide) (by simp [bw_cat, cat_i, cat_j]) (fun ls hl => ?_)
  refine lv_goto (tgt := 3) hx hb d_Br_noteReads_122 (by decide) ?_
  exact hK3 _ _ _ _ _ _ _ _ hq _ _ _ _ _ hW (lv_sub hl [1, 2, 3, 4, 0] rfl) hc hs
def wb_Br_noteReads_64 (e0 mi : Nat) (K3 : Nat → Option Nat → Option Nat → Int32 → Int32 → Wd → Nat → Nat → Prop) (Q : Wd → Prop) (x0 : Nat) (x1 : Option Nat) (x2 : Option Nat) (x3 : Int32) (x4 : Int32) (x5 : Option Nat) (z0 : Int32) (w : Wd) (nc ns : Nat) : Prop :=
  (z0 = 0 → (wb_Br_noteReads_119 e0 mi K3 Q x0 x1 x2 x3 x4 x5 z0 w nc ns)) ∧ (¬ z0 = 0 → (bw_is w x0 5 ∧ (∃ a3 : Nat, (wR w x0 4) = some a3 ∧ (bw_is w a3 7 ∧ (wp_Al_size e0 mi a3 w (fun i11 w6 => ((4096 : Int32) ≤ i11 → (wb_Br_noteReads_119 e0 mi K3 Q x0 x1 x2 x3 x4 x5 z0 w6 nc ns)) ∧ (¬ (4096 : Int32) ≤ i11 → (bw_is w6 x0 5 ∧ (1 ≤ nc ∧ 4 ≤ ns ∧ ∀ q14 : Nat, q14 ∉ wL w6 → ∀ w18 : Wd, w18 = bw_new w6 q14 1 0 → (∃ a20 : Nat, x5 = some a20 ∧ (bw_is w18 a20 3 ∧ (∃ a22 : Nat, x2 = some a22 ∧ (bw_is w18 a22 2 ∧ (wp_Ed_init e0 mi q14 ((wI w18 x0 7) + (wI w18 a20 3)) (0 : Int32) (wI w18 a22 0) (wI w18 a20 0) w18 (fun w25 => ∃ a31 : Nat, (wR w6 x0 4) = some a31 ∧ (bw_is w25 a31 7 ∧ (∃ k35 k36 : Nat, k35 ≤ (nc - 1) ∧ k36 ≤ (ns - 4) ∧ wp_Al_add e0 mi a31 (some q14) w25 k35 k36 (fun i39 w34 => wb_Br_noteReads_119 e0 mi K3 Q x0 x1 x2 x3 x4 x5 z0 w34 ((nc - 1) - k35) ((ns - 4) - k36)))))))))))))))))))
set_option maxHeartbeats 4000000 in
set_option maxRecDepth 100000 in
theorem k_Br_noteReads_64 {p : Program} {l : Launch} {e : Env} {s : State} {m : MethodId} {args : Array Value} {below : List Frame} {meth : Method} {c : Code} {D : va_G} {AC : Nat → ClassId} {e0 mi : Nat} {A : Nat → Prop} {mc ms : Nat} {K3 : Nat → Option Nat → Option Nat → Int32 → Int32 → Wd → Nat → Nat → Prop} {Q : Wd → Prop} (C : Cx p l s m args meth c D AC e0 mi A n_Br_noteReads b_Br_noteReads 7 none) (hK3 : ∀ (x0 : Nat) (x1 : Option Nat) (x2 : Option Nat) (x3 : Int32) (x4 : Int32) (w : Wd) (nc ns : Nat), K3 x0 x1 x2 x3 x4 w nc ns → ∀ (H : Heap) (locs : List Loc) (cells slots : Nat) (ls : Array Slot), HW D cls8 FTc AC A s.heap H locs w → lv_has ls 7 [(0, va_rf (some x0)), (1, va_rf x1), (2, va_rf x2), (3, .int x3), (4, .int x4)] → cells + nc ≤ mc → slots + ns ≤ ms → W p l e { frames := 7, cells := mc, slots := ms, locals := 171 } s m args below meth c H locs cells slots (vx_MQ below (QQ D AC A (fun v w9 => v = none ∧ Q w9)) (XX D AC A (fun _ _ => False)) args s mc ms A) (F0 m 3 ls [])) (x0 : Nat) (x1 : Option Nat) (x2 : Option Nat) (x3 : Int32) (x4 : Int32) (x5 : Option Nat) (z0 : Int32) (w : Wd) (nc ns : Nat) (hq : wb_Br_noteReads_64 e0 mi K3 Q x0 x1 x2 x3 x4 x5 z0 w nc ns) : ∀ (H : Heap) (locs : List Loc) (cells slots : Nat) (ls : Array Slot), HW D cls8 FTc AC A s.heap H locs w → lv_has ls 7 [(0, va_rf (some x0)), (1, va_rf x1), (2, va_rf x2), (3, .int x3), (4, .int x4), (5, va_rf x5)] → cells + nc ≤ mc → slots + ns ≤ ms → W p l e { frames := 7, cells := mc, slots := ms, locals := 171 } s m args below meth c H locs cells slots (vx_MQ below (QQ D AC A (fun v w9 => v = none ∧ Q w9)) (XX D AC A (fun _ _ => False)) args s mc ms A) (F0 m 64 ls [.int z0]) := by
  obtain ⟨hl0, hx, hb, hr, ht, hown, hlocks, hnm, hml, hex, hK, hA, hZ, hV⟩ := id C
  intro H locs cells slots ls hW hl hc hs
  unfold wb_Br_noteReads_64 at hq
  refine lv_istore (lv' := [(6, .int z0), (0, va_rf (some x0)), (1, va_rf x1), (2, va_rf x2), (3, .int x3), (4, .int x4), (5, va_rf x5)]) hx hb d_Br_noteReads_64 hl (by decide) (by simp [bw_cat, cat_i, cat_j]) (fun ls hl => ?_)
  refine lv_iload hx hb d_Br_noteReads_66 (lv_at hl 0 rfl) ?_
  refine lv_if_eq (tgt := 119) hx hb d_Br_noteReads_68 (by decide) (fun c1 => ?_) (fun c1 => ?_)
  · have hq := hq.1 c1
    exact k_Br_noteReads_119 C hK3 _ _ _ _ _ _ _ _ _ _ hq _ _ _ _ _ hW (lv_sub hl [1, 2, 3, 4, 5, 6, 0] rfl) hc hs
  · have hq := hq.2 c1
    refine bw_aload_n hx hb d_Br_noteReads_71 rfl (lv_at hl 1 rfl) ?_
    obtain ⟨t2, hq⟩ := hq
    refine bw_getR hx hb ht in_Br hown hK hW rfl t2 (by decide) rfl 4 (by decide) rfl (ht _ m_63) (fun _ h => h) d_Br_noteReads_72 ?_
    obtain ⟨a3, ea3, hq⟩ := hq
    obtain ⟨t4, hq⟩ := hq
    refine bw_callV (As := []) (rest := []) C hW ci_Al_size m_91 m_92 m_93 d_Br_noteReads_75 ea3 t4 (by decide) rfl rfl rfl hl.1 (by decide) ⟨Nat.le_of_ble_eq_true rfl, Nat.le_of_ble_eq_true rfl⟩ ⟨Nat.le_trans (Nat.add_le_add_left (Nat.zero_le _) _) hc, Nat.le_trans (Nat.add_le_add_left (Nat.zero_le _) _) hs⟩ (c_Al_size hl0 _ _ hq) (fun _ _ _ _ _ _ h => h.elim) (fun v5 w6 H locs hv hW => ?_)
    obtain ⟨i11, rfl, hq⟩ := hv
    have hc := bw_bud0 hc
    have hs := bw_bud0 hs
    refine W.eq (g2 := F0 m 78 ls [.int i11]) rfl ?_
    refine lv_sipush (v := 4096) hx hb d_Br_noteReads_78 (by decide) ?_
    refine lv_icmp_ge (tgt := 119) hx hb d_Br_noteReads_81 (by decide) (fun c12 => ?_) (fun c12 => ?_)
    · have hq := hq.1 c12
      exact k_Br_noteReads_119 C hK3 _ _ _ _ _ _ _ _ _ _ hq _ _ _ _ _ hW (lv_sub hl [1, 2, 3, 4, 5, 6, 0] rfl) hc hs
    · have hq := hq.2 c12
      refine bw_aload_n hx hb d_Br_noteReads_84 rfl (lv_at hl 1 rfl) ?_
      obtain ⟨t13, hq⟩ := hq
      refine bw_getR hx hb ht in_Br hown hK hW rfl t13 (by decide) rfl 4 (by decide) rfl (ht _ m_63) (fun _ h => h) d_Br_noteReads_85 ?_
      obtain ⟨h15, h16, hq⟩ := hq
      refine bw_mk (ci := 1) hx hb ht in_Ed y_Ed yk_Ed hown (ht _ m_550) (ht _ m_589) (ht _ m_23) hK hW hA (by decide) (by rfl) df_Ed (Nat.le_trans (Nat.add_le_add_left h15 _) hc) (Nat.le_trans (Nat.add_le_add_left h16 _) hs) d_Br_noteReads_88 (fun q14 H n17 hW => ?_)
      obtain ⟨w18, ew18⟩ : ∃ z : Wd, z = bw_new w6 q14 1 0 := ⟨_, rfl⟩
      rw [← ew18] at hW
      have hq := hq q14 n17 w18 ew18
      have hc := bw_bud hc h15
      have hs := bw_bud hs h16
      have t13 : bw_is w18 x0 5 := by rw [ew18]; exact bw_is_new n17 t13
      have t19 : bw_is w18 q14 1 := by rw [ew18]; exact bw_is_self _ _ _ _
      refine lv_dup hx hb d_Br_noteReads_91 (bw_cat _) ?_
      refine bw_aload_n hx hb d_Br_noteReads_92 rfl (lv_at hl 1 rfl) ?_
      refine bw_getI hx hb ht in_Br hown hK hW rfl t13 (by decide) rfl 7 (by decide) rfl (ht _ m_66) (fun _ h => h) d_Br_noteReads_93 ?_
      refine bw_aload hx hb d_Br_noteReads_96 (lv_at hl 6 rfl) ?_
      obtain ⟨a20, ea20, hq⟩ := hq
      obtain ⟨t21, hq⟩ := hq
      refine bw_getI hx hb ht in_Sc hown hK hW ea20 t21 (by decide) rfl 3 (by decide) rfl (ht _ m_410) (fun _ h => h) d_Br_noteReads_98 ?_
      refine lv_iadd hx hb d_Br_noteReads_101 ?_
      refine lv_iconst (v := 0) hx hb d_Br_noteReads_102 (by decide) ?_
      refine bw_aload_n hx hb d_Br_noteReads_103 rfl (lv_at hl 3 rfl) ?_
      obtain ⟨a22, ea22, hq⟩ := hq
      obtain ⟨t23, hq⟩ := hq
      refine bw_getI hx hb ht in_It hown hK hW ea22 t23 (by decide) rfl 0 (by decide) rfl (ht _ m_444) (fun _ h => h) d_Br_noteReads_104 ?_
      refine bw_aload hx hb d_Br_noteReads_107 (lv_at hl 6 rfl) ?_
      refine bw_getI hx hb ht in_Sc hown hK hW ea20 t21 (by decide) rfl 0 (by decide) rfl (ht _ m_404) (fun _ h => h) d_Br_noteReads_109 ?_
      refine bw_callI (As := [.int ((wI w18 x0 7) + (wI w18 a20 3)), .int (0 : Int32), .int (wI w18 a22 0), .int (wI w18 a20 0)]) (rest := [va_rf (some q14), va_rf (wR w6 x0 4)]) C hW ci_Ed_init rfl m_590 m_591 d_Br_noteReads_112 rfl rfl hl.1 (by simp [bw_cat, cat_i, cat_j]) ⟨Nat.le_of_ble_eq_true rfl, Nat.le_of_ble_eq_true rfl⟩ ⟨Nat.le_trans (Nat.add_le_add_left (Nat.zero_le _) _) hc, Nat.le_trans (Nat.add_le_add_left (Nat.zero_le _) _) hs⟩ (c_Ed_init hl0 _ _ _ _ _ _ hq) (fun v24 w25 H locs hv hW => ?_)
      obtain ⟨rfl, hq⟩ := hv
      have hc := bw_bud0 hc
      have hs := bw_bud0 hs
      refine W.eq (g2 := F0 m 115 ls [va_rf (some q14), va_rf (wR w6 x0 4)]) rfl ?_
      obtain ⟨a31, ea31, hq⟩ := hq
      obtain ⟨t32, hq⟩ := hq
      obtain ⟨k35, k36, h37, h38, hq⟩ := hq
      refine bw_callV (As := [va_rf (some q14)]) (rest := []) C hW ci_Al_add m_274 m_275 m_276 d_Br_noteReads_115 ea31 t32 (by decide) rfl rfl rfl hl.1 (by decide) ⟨Nat.le_of_ble_eq_true rfl, Nat.le_of_ble_eq_true rfl⟩ ⟨Nat.le_trans (Nat.add_le_add_left h37 _) hc, Nat.le_trans (Nat.add_le_add_left h38 _) hs⟩ (c_Al_add hl0 _ _ _ _ _ hq) (fun _ _ _ _ _ _ h => h.elim) (fun v33 w34 H locs hv hW => ?_)
      obtain ⟨i39, rfl, hq⟩ := hv
      have hc := bw_bud hc h37
      have hs := bw_bud hs h38
      refine W.eq (g2 := F0 m 118 ls [.int i39]) rfl ?_
      refine lv_pop hx hb d_Br_noteReads_118 rfl ?_
      exact k_Br_noteReads_119 C hK3 _ _ _ _ _ _ _ _ _ _ hq _ _ _ _ _ hW (lv_sub hl [1, 2, 3, 4, 5, 6, 0] rfl) hc hs
def wb_Br_noteReads_63 (e0 mi : Nat) (K3 : Nat → Option Nat → Option Nat → Int32 → Int32 → Wd → Nat → Nat → Prop) (Q : Wd → Prop) (x0 : Nat) (x1 : Option Nat) (x2 : Option Nat) (x3 : Int32) (x4 : Int32) (x5 : Option Nat) (w : Wd) (nc ns : Nat) : Prop :=
  wb_Br_noteReads_64 e0 mi K3 Q x0 x1 x2 x3 x4 x5 (0 : Int32) w nc ns
set_option maxHeartbeats 4000000 in
set_option maxRecDepth 100000 in
theorem k_Br_noteReads_63 {p : Program} {l : Launch} {e : Env} {s : State} {m : MethodId} {args : Array Value} {below : List Frame} {meth : Method} {c : Code} {D : va_G} {AC : Nat → ClassId} {e0 mi : Nat} {A : Nat → Prop} {mc ms : Nat} {K3 : Nat → Option Nat → Option Nat → Int32 → Int32 → Wd → Nat → Nat → Prop} {Q : Wd → Prop} (C : Cx p l s m args meth c D AC e0 mi A n_Br_noteReads b_Br_noteReads 7 none) (hK3 : ∀ (x0 : Nat) (x1 : Option Nat) (x2 : Option Nat) (x3 : Int32) (x4 : Int32) (w : Wd) (nc ns : Nat), K3 x0 x1 x2 x3 x4 w nc ns → ∀ (H : Heap) (locs : List Loc) (cells slots : Nat) (ls : Array Slot), HW D cls8 FTc AC A s.heap H locs w → lv_has ls 7 [(0, va_rf (some x0)), (1, va_rf x1), (2, va_rf x2), (3, .int x3), (4, .int x4)] → cells + nc ≤ mc → slots + ns ≤ ms → W p l e { frames := 7, cells := mc, slots := ms, locals := 171 } s m args below meth c H locs cells slots (vx_MQ below (QQ D AC A (fun v w9 => v = none ∧ Q w9)) (XX D AC A (fun _ _ => False)) args s mc ms A) (F0 m 3 ls [])) (x0 : Nat) (x1 : Option Nat) (x2 : Option Nat) (x3 : Int32) (x4 : Int32) (x5 : Option Nat) (w : Wd) (nc ns : Nat) (hq : wb_Br_noteReads_63 e0 mi K3 Q x0 x1 x2 x3 x4 x5 w nc ns) : ∀ (H : Heap) (locs : List Loc) (cells slots : Nat) (ls : Array Slot), HW D cls8 FTc AC A s.heap H locs w → lv_has ls 7 [(0, va_rf (some x0)), (1, va_rf x1), (2, va_rf x2), (3, .int x3), (4, .int x4), (5, va_rf x5)] → cells + nc ≤ mc → slots + ns ≤ ms → W p l e { frames := 7, cells := mc, slots := ms, locals := 171 } s m args below meth c H locs cells slots (vx_MQ below (QQ D AC A (fun v w9 => v = none ∧ Q w9)) (XX D AC A (fun _ _ => False)) args s mc ms A) (F0 m 63 ls []) := by
  obtain ⟨hl0, hx, hb, hr, ht, hown, hlocks, hnm, hml, hex, hK, hA, hZ, hV⟩ := id C
  intro H locs cells slots ls hW hl hc hs
  unfold wb_Br_noteReads_63 at hq
  refine lv_iconst (v := 0) hx hb d_Br_noteReads_63 (by decide) ?_
  exact k_Br_noteReads_64 C hK3 _ _ _ _ _ _ _ _ _ _ hq _ _ _ _ _ hW (lv_sub hl [0, 1, 2, 3, 4, 5] rfl) hc hs
def wb_Br_noteReads_3 (e0 mi : Nat) (Q : Wd → Prop) : Nat → Nat → Option Nat → Option Nat → Int32 → Int32 → Wd → Nat → Nat → Prop
  | 0, _, _, _, _, _, _, _, _ => False
  | n + 1, x0, x1, x2, x3, x4, w, nc, ns => bw_is w x0 5 ∧ (∃ a2 : Nat, (wR w x0 2) = some a2 ∧ (bw_is w a2 7 ∧ (wp_Al_size e0 mi a2 w (fun i10 w5 => (i10 ≤ x4 → (Q w5)) ∧ (¬ i10 ≤ x4 → (bw_is w5 x0 5 ∧ (∃ a13 : Nat, (wR w5 x0 2) = some a13 ∧ (bw_is w5 a13 7 ∧ (wp_Al_get e0 mi a13 x4 w5 (fun r21 w16 => (∀ a23, r21 = some a23 → bw_is w16 a23 3) ∧ (∃ a24 : Nat, r21 = some a24 ∧ (bw_is w16 a24 3 ∧ ((¬ (wR w16 a24 1) = x1 → (wb_Br_noteReads_63 e0 mi (wb_Br_noteReads_3 e0 mi Q n) Q x0 x1 x2 x3 x4 r21 w16 nc ns)) ∧ ((wR w16 a24 1) = x1 → (((wI w16 a24 2) ≤ x3 → (wb_Br_noteReads_63 e0 mi (wb_Br_noteReads_3 e0 mi Q n) Q x0 x1 x2 x3 x4 r21 w16 nc ns)) ∧ (¬ (wI w16 a24 2) ≤ x3 → (∃ a28 : Nat, x2 = some a28 ∧ (bw_is w16 a28 2 ∧ (((wI w16 a28 7) < (wI w16 a24 2) → (wb_Br_noteReads_63 e0 mi (wb_Br_noteReads_3 e0 mi Q n) Q x0 x1 x2 x3 x4 r21 w16 nc ns)) ∧ (¬ (wI w16 a28 7) < (wI w16 a24 2) → (wb_Br_noteReads_64 e0 mi (wb_Br_noteReads_3 e0 mi Q n) Q x0 x1 x2 x3 x4 r21 (1 : Int32) w16 nc ns)))))))))))))))))))))
set_option maxHeartbeats 4000000 in
set_option maxRecDepth 100000 in
theorem k_Br_noteReads_3 {p : Program} {l : Launch} {e : Env} {s : State} {m : MethodId} {args : Array Value} {below : List Frame} {meth : Method} {c : Code} {D : va_G} {AC : Nat → ClassId} {e0 mi : Nat} {A : Nat → Prop} {mc ms : Nat} {Q : Wd → Prop} (C : Cx p l s m args meth c D AC e0 mi A n_Br_noteReads b_Br_noteReads 7 none) : ∀ (n : Nat) (x0 : Nat) (x1 : Option Nat) (x2 : Option Nat) (x3 : Int32) (x4 : Int32) (w : Wd) (nc ns : Nat), wb_Br_noteReads_3 e0 mi Q n x0 x1 x2 x3 x4 w nc ns → ∀ (H : Heap) (locs : List Loc) (cells slots : Nat) (ls : Array Slot), HW D cls8 FTc AC A s.heap H locs w → lv_has ls 7 [(0, va_rf (some x0)), (1, va_rf x1), (2, va_rf x2), (3, .int x3), (4, .int x4)] → cells + nc ≤ mc → slots + ns ≤ ms → W p l e { frames := 7, cells := mc, slots := ms, locals := 171 } s m args below meth c H locs cells slots (vx_MQ below (QQ D AC A (fun v w9 => v = none ∧ Q w9)) (XX D AC A (fun _ _ => False)) args s mc ms A) (F0 m 3 ls []) := by
  obtain ⟨hl0, hx, hb, hr, ht, hown, hlocks, hnm, hml, hex, hK, hA, hZ, hV⟩ := id C
  intro n
  induction n with
  | zero =>
    intro x0 x1 x2 x3 x4 w nc ns hq
    exact hq.elim
  | succ n ih =>
    intro x0 x1 x2 x3 x4 w nc ns hq H locs cells slots ls hW hl hc hs
    have hK3 := ih
    unfold wb_Br_noteReads_3 at hq
    refine lv_iload hx hb d_Br_noteReads_3 (lv_at hl 4 rfl) ?_
    refine bw_aload_n hx hb d_Br_noteReads_5 rfl (lv_at hl 0 rfl) ?_
    obtain ⟨t1, hq⟩ := hq
    refine bw_getR hx hb ht in_Br hown hK hW rfl t1 (by decide) rfl 2 (by decide) rfl (ht _ m_61) (fun _ h => h) d_Br_noteReads_6 ?_
    obtain ⟨a2, ea2, hq⟩ := hq
    obtain ⟨t3, hq⟩ := hq
    refine bw_callV (As := []) (rest := [.int x4]) C hW ci_Al_size m_91 m_92 m_93 d_Br_noteReads_9 ea2 t3 (by decide) rfl rfl rfl hl.1 (by simp [bw_cat, cat_i, cat_j]) ⟨Nat.le_of_ble_eq_true rfl, Nat.le_of_ble_eq_true rfl⟩ ⟨Nat.le_trans (Nat.add_le_add_left (Nat.zero_le _) _) hc, Nat.le_trans (Nat.add_le_add_left (Nat.zero_le _) _) hs⟩ (c_Al_size hl0 _ _ hq) (fun _ _ _ _ _ _ h => h.elim) (fun v4 w5 H locs hv hW => ?_)
    obtain ⟨i10, rfl, hq⟩ := hv
    have hc := bw_bud0 hc
    have hs := bw_bud0 hs
    refine W.eq (g2 := F0 m 12 ls [.int i10, .int x4]) rfl ?_
    refine lv_icmp_ge (tgt := 125) hx hb d_Br_noteReads_12 (by decide) (fun c11 => ?_) (fun c11 => ?_)
    · have hq := hq.1 c11
      exact bw_vret C hW ⟨rfl, hq⟩ d_Br_noteReads_125 (Nat.le_trans (Nat.le_add_right _ _) hc) (Nat.le_trans (Nat.le_add_right _ _) hs)
    · have hq := hq.2 c11
      refine bw_aload_n hx hb d_Br_noteReads_15 rfl (lv_at hl 0 rfl) ?_
      obtain ⟨t12, hq⟩ := hq
      refine bw_getR hx hb ht in_Br hown hK hW rfl t12 (by decide) rfl 2 (by decide) rfl (ht _ m_61) (fun _ h => h) d_Br_noteReads_16 ?_
      refine lv_iload hx hb d_Br_noteReads_19 (lv_at hl 4 rfl) ?_
      obtain ⟨a13, ea13, hq⟩ := hq
      obtain ⟨t14, hq⟩ := hq
      refine bw_callV (As := [.int x4]) (rest := []) C hW ci_Al_get m_99 m_100 m_101 d_Br_noteReads_21 ea13 t14 (by decide) rfl rfl rfl hl.1 (by decide) ⟨Nat.le_of_ble_eq_true rfl, Nat.le_of_ble_eq_true rfl⟩ ⟨Nat.le_trans (Nat.add_le_add_left (Nat.zero_le _) _) hc, Nat.le_trans (Nat.add_le_add_left (Nat.zero_le _) _) hs⟩ (c_Al_get hl0 _ _ _ hq) (fun _ _ _ _ _ _ h => h.elim) (fun v15 w16 H locs hv hW => ?_)
      obtain ⟨r21, rfl, hq⟩ := hv
      have hc := bw_bud0 hc
      have hs := bw_bud0 hs
      refine W.eq (g2 := F0 m 24 ls [va_rf r21]) rfl ?_
      obtain ⟨h22, hq⟩ := hq
      refine bw_cast C hW m_397 (cn := 3) rfl (by decide) (by decide +kernel) h22 d_Br_noteReads_24 ?_
      refine bw_astore (lv' := [(5, va_rf r21), (0, va_rf (some x0)), (1, va_rf x1), (2, va_rf x2), (3, .int x3), (4, .int x4)]) hx hb d_Br_noteReads_27 hl (by decide) (by simp [bw_cat, cat_i, cat_j]) (fun ls hl => ?_)
      refine bw_aload hx hb d_Br_noteReads_29 (lv_at hl 0 rfl) ?_
      obtain ⟨a24, ea24, hq⟩ := hq
      obtain ⟨t25, hq⟩ := hq
      refine bw_getR hx hb ht in_Sc hown hK hW ea24 t25 (by decide) rfl 1 (by decide) rfl (ht _ m_406) (fun _ h => h) d_Br_noteReads_31 ?_
      refine bw_aload_n hx hb d_Br_noteReads_34 rfl (lv_at hl 2 rfl) ?_
      refine lv_acmp_ne (tgt := 63) hx hb d_Br_noteReads_35 (by decide) (fun c26 => ?_) (fun c26 => ?_)
      · have hq := hq.1 c26
        exact k_Br_noteReads_63 C hK3 _ _ _ _ _ _ _ _ _ hq _ _ _ _ _ hW (lv_sub hl [1, 2, 3, 4, 5, 0] rfl) hc hs
      · have hq := hq.2 c26
        refine lv_iload_n hx hb d_Br_noteReads_38 rfl (lv_at hl 4 rfl) ?_
        refine bw_aload hx hb d_Br_noteReads_39 (lv_at hl 0 rfl) ?_
        refine bw_getI hx hb ht in_Sc hown hK hW ea24 t25 (by decide) rfl 2 (by decide) rfl (ht _ m_408) (fun _ h => h) d_Br_noteReads_41 ?_
        refine lv_icmp_ge (tgt := 63) hx hb d_Br_noteReads_44 (by decide) (fun c27 => ?_) (fun c27 => ?_)
        · have hq := hq.1 c27
          exact k_Br_noteReads_63 C hK3 _ _ _ _ _ _ _ _ _ hq _ _ _ _ _ hW (lv_sub hl [1, 2, 3, 4, 5, 0] rfl) hc hs
        · have hq := hq.2 c27
          refine bw_aload_n hx hb d_Br_noteReads_47 rfl (lv_at hl 3 rfl) ?_
          obtain ⟨a28, ea28, hq⟩ := hq
          obtain ⟨t29, hq⟩ := hq
          refine bw_getI hx hb ht in_It hown hK hW ea28 t29 (by decide) rfl 7 (by decide) rfl (ht _ m_460) (fun _ h => h) d_Br_noteReads_48 ?_
          refine bw_aload hx hb d_Br_noteReads_51 (lv_at hl 0 rfl) ?_
          refine bw_getI hx hb ht in_Sc hown hK hW ea24 t25 (by decide) rfl 2 (by decide) rfl (ht _ m_408) (fun _ h => h) d_Br_noteReads_53 ?_
          refine lv_icmp_lt (tgt := 63) hx hb d_Br_noteReads_56 (by decide) (fun c30 => ?_) (fun c30 => ?_)
          · have hq := hq.1 c30
            exact k_Br_noteReads_63 C hK3 _ _ _ _ _ _ _ _ _ hq _ _ _ _ _ hW (lv_sub hl [1, 2, 3, 4, 5, 0] rfl) hc hs
          · have hq := hq.2 c30
            refine lv_iconst (v := 1) hx hb d_Br_noteReads_59 (by decide) ?_
            refine lv_goto (tgt := 64) hx hb d_Br_noteReads_60 (by decide) ?_
            exact k_Br_noteReads_64 C hK3 _ _ _ _ _ _ _ _ _ _ hq _ _ _ _ _ hW (lv_sub hl [1, 2, 3, 4, 5, 0] rfl) hc hs
def wp_Br_noteReads (e0 mi : Nat) (x0 : Nat) (x1 : Option Nat) (x2 : Option Nat) (x3 : Int32) (w : Wd) (nc ns : Nat) (Q : Wd → Prop) : Prop :=
  ∃ n1 : Nat, wb_Br_noteReads_3 e0 mi Q n1 x0 x1 x2 x3 (0 : Int32) w nc ns
set_option maxHeartbeats 4000000 in
set_option maxRecDepth 100000 in
theorem k_Br_noteReads_0 {p : Program} {l : Launch} {e : Env} {s : State} {m : MethodId} {args : Array Value} {below : List Frame} {meth : Method} {c : Code} {D : va_G} {AC : Nat → ClassId} {e0 mi : Nat} {A : Nat → Prop} {mc ms : Nat} {Q : Wd → Prop} (C : Cx p l s m args meth c D AC e0 mi A n_Br_noteReads b_Br_noteReads 7 none) (x0 : Nat) (x1 : Option Nat) (x2 : Option Nat) (x3 : Int32) (w : Wd) (nc ns : Nat) (hq : wp_Br_noteReads e0 mi x0 x1 x2 x3 w nc ns Q) : ∀ (H : Heap) (locs : List Loc) (cells slots : Nat) (ls : Array Slot), HW D cls8 FTc AC A s.heap H locs w → lv_has ls 7 [(0, va_rf (some x0)), (1, va_rf x1), (2, va_rf x2), (3, .int x3)] → cells + nc ≤ mc → slots + ns ≤ ms → W p l e { frames := 7, cells := mc, slots := ms, locals := 171 } s m args below meth c H locs cells slots (vx_MQ below (QQ D AC A (fun v w9 => v = none ∧ Q w9)) (XX D AC A (fun _ _ => False)) args s mc ms A) (F0 m 0 ls []) := by
  obtain ⟨hl0, hx, hb, hr, ht, hown, hlocks, hnm, hml, hex, hK, hA, hZ, hV⟩ := id C
  intro H locs cells slots ls hW hl hc hs
  unfold wp_Br_noteReads at hq
  refine lv_iconst (v := 0) hx hb d_Br_noteReads_0 (by decide) ?_
  refine lv_istore (lv' := [(4, .int (0 : Int32)), (0, va_rf (some x0)), (1, va_rf x1), (2, va_rf x2), (3, .int x3)]) hx hb d_Br_noteReads_1 hl (by decide) (by simp [bw_cat, cat_i, cat_j]) (fun ls hl => ?_)
  obtain ⟨n1, hq⟩ := hq
  exact k_Br_noteReads_3 C  n1 _ _ _ _ _ _ _ _ hq _ _ _ _ _ hW (lv_sub hl [1, 2, 3, 4, 0] rfl) hc hs
theorem ci_Br_noteReads : CI n_Br_noteReads b_Br_noteReads 7 none 3 := ⟨m_644, m_1, by decide, by decide, by decide +kernel⟩
theorem sel_Br_noteReads : Cond.selects "BeltRows" n_Br_noteReads n_Br_noteReads ∈ TBL := List.mem_filter.mpr ⟨List.mem_append_left _ (List.mem_map.mpr ⟨(n_Br_noteReads, 9), by decide +kernel, rfl⟩), rfl⟩
theorem c_Br_noteReads {l : Launch} {D : va_G} {AC : Nat → ClassId} {e0 mi : Nat} {Q : Wd → Prop} (hl0 : l.stackTraces = false) (x0 : Nat) (x1 : Option Nat) (x2 : Option Nat) (x3 : Int32) (w : Wd) (nc ns : Nat) (hq : wp_Br_noteReads e0 mi x0 x1 x2 x3 w nc ns Q) : Ct l D AC e0 mi n_Br_noteReads (wy n_Br_noteReads b_Br_noteReads 7 none) 7 171 [va_rf (some x0), va_rf x1, va_rf x2, .int x3] w nc ns (fun v w9 => v = none ∧ Q w9) (fun _ _ => False) :=
  Ct.of hl0 (by decide) (by simp [lg_sl, bw_cat, cat_i, cat_j]) (fun p e s m args below meth c A ls C hW hl => k_Br_noteReads_0 C x0 x1 x2 x3 w nc ns hq s.heap [] 0 0 ls hW (by simpa [lv_args, bw_cat, cat_i, cat_j] using hl) (Nat.le_of_eq (Nat.zero_add _)) (Nat.le_of_eq (Nat.zero_add _)))
def wb_Br_moveItems_5 (e0 mi : Nat) (Q : Wd → Prop) : Nat → Nat → Option Nat → Option Nat → Wd → Nat → Nat → Prop
  | 0, _, _, _, _, _, _ => False
  | n + 1, x0, x1, x2, w, nc, ns => (x2 = none → (Q w)) ∧ (¬ x2 = none → (∃ a2 : Nat, x2 = some a2 ∧ (bw_is w a2 2 ∧ (∀ i4 : Int32, i4 = wI w a2 7 → (bw_is w x0 5 ∧ (wp_It_goOn e0 mi a2 x1 (wI w x0 6) w (fun w7 => bw_is w7 x0 5 ∧ (∃ k16 k17 : Nat, k16 ≤ nc ∧ k17 ≤ ns ∧ wp_Br_noteReads e0 mi x0 x1 x2 i4 w7 k16 k17 (fun w15 => bw_is w15 a2 2 ∧ (∀ r22 : Option Nat, r22 = wR w15 a2 5 → ((wb_Br_moveItems_5 e0 mi Q n) x0 x1 r22 w15 (nc - k16) (ns - k17))))))))))))
set_option maxHeartbeats 4000000 in
set_option maxRecDepth 100000 in
theorem k_Br_moveItems_5 {p : Program} {l : Launch} {e : Env} {s : State} {m : MethodId} {args : Array Value} {below : List Frame} {meth : Method} {c : Code} {D : va_G} {AC : Nat → ClassId} {e0 mi : Nat} {A : Nat → Prop} {mc ms : Nat} {Q : Wd → Prop} (C : Cx p l s m args meth c D AC e0 mi A n_Br_moveItems b_Br_moveItems 4 none) : ∀ (n : Nat) (x0 : Nat) (x1 : Option Nat) (x2 : Option Nat) (w : Wd) (nc ns : Nat), wb_Br_moveItems_5 e0 mi Q n x0 x1 x2 w nc ns → ∀ (H : Heap) (locs : List Loc) (cells slots : Nat) (ls : Array Slot), HW D cls8 FTc AC A s.heap H locs w → lv_has ls 4 [(0, va_rf (some x0)), (1, va_rf x1), (2, va_rf x2)] → cells + nc ≤ mc → slots + ns ≤ ms → W p l e { frames := 8, cells := mc, slots := ms, locals := 197 } s m args below meth c H locs cells slots (vx_MQ below (QQ D AC A (fun v w9 => v = none ∧ Q w9)) (XX D AC A (fun _ _ => False)) args s mc ms A) (F0 m 5 ls []) := by
  obtain ⟨hl0, hx, hb, hr, ht, hown, hlocks, hnm, hml, hex, hK, hA, hZ, hV⟩ := id C
  intro n
  induction n with
  | zero =>
    intro x0 x1 x2 w nc ns hq
    exact hq.elim
  | succ n ih =>
    intro x0 x1 x2 w nc ns hq H locs cells slots ls hW hl hc hs
    have hK5 := ih
    unfold wb_Br_moveItems_5 at hq
    refine bw_aload_n hx hb d_Br_moveItems_5 rfl (lv_at hl 2 rfl) ?_
    refine bw_ifnull (tgt := 38) hx hb d_Br_moveItems_6 (by decide) (fun c1 => ?_) (fun c1 => ?_)
    · have hq := hq.1 c1
      exact bw_vret C hW ⟨rfl, hq⟩ d_Br_moveItems_38 (Nat.le_trans (Nat.le_add_right _ _) hc) (Nat.le_trans (Nat.le_add_right _ _) hs)
    · have hq := hq.2 c1
      refine bw_aload_n hx hb d_Br_moveItems_9 rfl (lv_at hl 2 rfl) ?_
      obtain ⟨a2, ea2, hq⟩ := hq
      obtain ⟨t3, hq⟩ := hq
      refine bw_getI hx hb ht in_It hown hK hW ea2 t3 (by decide) rfl 7 (by decide) rfl (ht _ m_460) (fun _ h => h) d_Br_moveItems_10 ?_
      refine lv_topi (fun i4 ei4 => ?_)
      have hq := hq i4 ei4
      refine lv_istore_n (i := 3) (lv' := [(3, .int i4), (0, va_rf (some x0)), (1, va_rf x1), (2, va_rf x2)]) hx hb d_Br_moveItems_13 rfl hl (by decide) (by simp [bw_cat, cat_i, cat_j]) (fun ls hl => ?_)
      refine bw_aload_n hx hb d_Br_moveItems_14 rfl (lv_at hl 3 rfl) ?_
      refine bw_aload_n hx hb d_Br_moveItems_15 rfl (lv_at hl 2 rfl) ?_
      refine bw_aload_n hx hb d_Br_moveItems_16 rfl (lv_at hl 1 rfl) ?_
      obtain ⟨t5, hq⟩ := hq
      refine bw_getI hx hb ht in_Br hown hK hW rfl t5 (by decide) rfl 6 (by decide) rfl (ht _ m_65) (fun _ h => h) d_Br_moveItems_17 ?_
      refine bw_callV (As := [va_rf x1, .int (wI w x0 6)]) (rest := []) C hW ci_It_goOn m_634 m_635 m_636 d_Br_moveItems_20 ea2 t3 (by decide) rfl rfl rfl hl.1 (by decide) ⟨Nat.le_of_ble_eq_true rfl, Nat.le_of_ble_eq_true rfl⟩ ⟨Nat.le_trans (Nat.add_le_add_left (Nat.zero_le _) _) hc, Nat.le_trans (Nat.add_le_add_left (Nat.zero_le _) _) hs⟩ (c_It_goOn hl0 _ _ _ _ hq) (fun _ _ _ _ _ _ h => h.elim) (fun v6 w7 H locs hv hW => ?_)
      obtain ⟨rfl, hq⟩ := hv
      have hc := bw_bud0 hc
      have hs := bw_bud0 hs
      refine W.eq (g2 := F0 m 23 ls []) rfl ?_
      refine bw_aload_n hx hb d_Br_moveItems_23 rfl (lv_at hl 1 rfl) ?_
      refine bw_aload_n hx hb d_Br_moveItems_24 rfl (lv_at hl 2 rfl) ?_
      refine bw_aload_n hx hb d_Br_moveItems_25 rfl (lv_at hl 3 rfl) ?_
      refine lv_iload_n hx hb d_Br_moveItems_26 rfl (lv_at hl 0 rfl) ?_
      obtain ⟨t13, hq⟩ := hq
      obtain ⟨k16, k17, h18, h19, hq⟩ := hq
      refine bw_callV (As := [va_rf x1, va_rf x2, .int i4]) (rest := []) C hW ci_Br_noteReads m_641 m_643 sel_Br_noteReads d_Br_moveItems_27 rfl t13 (by decide) rfl rfl rfl hl.1 (by decide) ⟨Nat.le_of_ble_eq_true rfl, Nat.le_of_ble_eq_true rfl⟩ ⟨Nat.le_trans (Nat.add_le_add_left h18 _) hc, Nat.le_trans (Nat.add_le_add_left h19 _) hs⟩ (c_Br_noteReads hl0 _ _ _ _ _ _ _ hq) (fun _ _ _ _ _ _ h => h.elim) (fun v14 w15 H locs hv hW => ?_)
      obtain ⟨rfl, hq⟩ := hv
      have hc := bw_bud hc h18
      have hs := bw_bud hs h19
      refine W.eq (g2 := F0 m 30 ls []) rfl ?_
      refine bw_aload_n hx hb d_Br_moveItems_30 rfl (lv_at hl 3 rfl) ?_
      obtain ⟨t21, hq⟩ := hq
      refine bw_getR hx hb ht in_It hown hK hW ea2 t21 (by decide) rfl 5 (by decide) rfl (ht _ m_455) (fun _ h => h) d_Br_moveItems_31 ?_
      refine bw_topr (fun r22 er22 => ?_)
      have hq := hq r22 er22
      refine bw_astore_n (i := 2) (lv' := [(2, va_rf r22), (3, .int i4), (0, va_rf (some x0)), (1, va_rf x1)]) hx hb d_Br_moveItems_34 rfl hl (by decide) (by simp [bw_cat, cat_i, cat_j]) (fun ls hl => ?_)
      refine lv_goto (tgt := 5) hx hb d_Br_moveItems_35 (by decide) ?_
      exact hK5 _ _ _ _ _ _ hq _ _ _ _ _ hW (lv_sub hl [2, 3, 0] rfl) hc hs
def wp_Br_moveItems (e0 mi : Nat) (x0 : Nat) (x1 : Option Nat) (w : Wd) (nc ns : Nat) (Q : Wd → Prop) : Prop :=
  ∃ a1 : Nat, x1 = some a1 ∧ (bw_is w a1 0 ∧ (∀ r3 : Option Nat, r3 = wR w a1 4 → (∃ n4 : Nat, wb_Br_moveItems_5 e0 mi Q n4 x0 x1 r3 w nc ns)))
set_option maxHeartbeats 4000000 in
set_option maxRecDepth 100000 in
theorem k_Br_moveItems_0 {p : Program} {l : Launch} {e : Env} {s : State} {m : MethodId} {args : Array Value} {below : List Frame} {meth : Method} {c : Code} {D : va_G} {AC : Nat → ClassId} {e0 mi : Nat} {A : Nat → Prop} {mc ms : Nat} {Q : Wd → Prop} (C : Cx p l s m args meth c D AC e0 mi A n_Br_moveItems b_Br_moveItems 4 none) (x0 : Nat) (x1 : Option Nat) (w : Wd) (nc ns : Nat) (hq : wp_Br_moveItems e0 mi x0 x1 w nc ns Q) : ∀ (H : Heap) (locs : List Loc) (cells slots : Nat) (ls : Array Slot), HW D cls8 FTc AC A s.heap H locs w → lv_has ls 4 [(0, va_rf (some x0)), (1, va_rf x1)] → cells + nc ≤ mc → slots + ns ≤ ms → W p l e { frames := 8, cells := mc, slots := ms, locals := 197 } s m args below meth c H locs cells slots (vx_MQ below (QQ D AC A (fun v w9 => v = none ∧ Q w9)) (XX D AC A (fun _ _ => False)) args s mc ms A) (F0 m 0 ls []) := by
  obtain ⟨hl0, hx, hb, hr, ht, hown, hlocks, hnm, hml, hex, hK, hA, hZ, hV⟩ := id C
  intro H locs cells slots ls hW hl hc hs
  unfold wp_Br_moveItems at hq
  refine bw_aload_n hx hb d_Br_moveItems_0 rfl (lv_at hl 1 rfl) ?_
  obtain ⟨a1, ea1, hq⟩ := hq
  obtain ⟨t2, hq⟩ := hq
  refine bw_getR hx hb ht in_Bt hown hK hW ea1 t2 (by decide) rfl 4 (by decide) rfl (ht _ m_248) (fun _ h => h) d_Br_moveItems_1 ?_
  refine bw_topr (fun r3 er3 => ?_)
  have hq := hq r3 er3
  refine bw_astore_n (i := 2) (lv' := [(2, va_rf r3), (0, va_rf (some x0)), (1, va_rf x1)]) hx hb d_Br_moveItems_4 rfl hl (by decide) (by simp [bw_cat, cat_i, cat_j]) (fun ls hl => ?_)
  obtain ⟨n4, hq⟩ := hq
  exact k_Br_moveItems_5 C  n4 _ _ _ _ _ _ hq _ _ _ _ _ hW (lv_sub hl [1, 2, 0] rfl) hc hs
theorem ci_Br_moveItems : CI n_Br_moveItems b_Br_moveItems 4 none 1 := ⟨m_633, m_1, by decide, by decide, by decide +kernel⟩
theorem sel_Br_moveItems : Cond.selects "BeltRows" n_Br_moveItems n_Br_moveItems ∈ TBL := List.mem_filter.mpr ⟨List.mem_append_left _ (List.mem_map.mpr ⟨(n_Br_moveItems, 9), by decide +kernel, rfl⟩), rfl⟩
theorem c_Br_moveItems {l : Launch} {D : va_G} {AC : Nat → ClassId} {e0 mi : Nat} {Q : Wd → Prop} (hl0 : l.stackTraces = false) (x0 : Nat) (x1 : Option Nat) (w : Wd) (nc ns : Nat) (hq : wp_Br_moveItems e0 mi x0 x1 w nc ns Q) : Ct l D AC e0 mi n_Br_moveItems (wy n_Br_moveItems b_Br_moveItems 4 none) 8 197 [va_rf (some x0), va_rf x1] w nc ns (fun v w9 => v = none ∧ Q w9) (fun _ _ => False) :=
  Ct.of hl0 (by decide) (by simp [lg_sl, bw_cat, cat_i, cat_j]) (fun p e s m args below meth c A ls C hW hl => k_Br_moveItems_0 C x0 x1 w nc ns hq s.heap [] 0 0 ls hW (by simpa [lv_args, bw_cat, cat_i, cat_j] using hl) (Nat.le_of_eq (Nat.zero_add _)) (Nat.le_of_eq (Nat.zero_add _)))
def wb_Br_passSecond_57 (e0 mi : Nat) (K24 : Nat → Int32 → Wd → Nat → Nat → Prop) (Q : Wd → Prop) (x0 : Nat) (x1 : Int32) (x2 : Option Nat) (w : Wd) (nc ns : Nat) : Prop :=
  ∀ i1 : Int32, i1 = x1 + (-1) → (K24 x0 i1 w nc ns)
set_option maxHeartbeats 4000000 in
set_option maxRecDepth 100000 in
theorem k_Br_passSecond_57 {p : Program} {l : Launch} {e : Env} {s : State} {m : MethodId} {args : Array Value} {below : List Frame} {meth : Method} {c : Code} {D : va_G} {AC : Nat → ClassId} {e0 mi : Nat} {A : Nat → Prop} {mc ms : Nat} {K24 : Nat → Int32 → Wd → Nat → Nat → Prop} {Q : Wd → Prop} (C : Cx p l s m args meth c D AC e0 mi A n_Br_passSecond b_Br_passSecond 3 none) (hK24 : ∀ (x0 : Nat) (x1 : Int32) (w : Wd) (nc ns : Nat), K24 x0 x1 w nc ns → ∀ (H : Heap) (locs : List Loc) (cells slots : Nat) (ls : Array Slot), HW D cls8 FTc AC A s.heap H locs w → lv_has ls 3 [(0, va_rf (some x0)), (1, .int x1)] → cells + nc ≤ mc → slots + ns ≤ ms → W p l e { frames := 9, cells := mc, slots := ms, locals := 220 } s m args below meth c H locs cells slots (vx_MQ below (QQ D AC A (fun v w9 => v = none ∧ Q w9)) (XX D AC A (fun _ _ => False)) args s mc ms A) (F0 m 24 ls [])) (x0 : Nat) (x1 : Int32) (x2 : Option Nat) (w : Wd) (nc ns : Nat) (hq : wb_Br_passSecond_57 e0 mi K24 Q x0 x1 x2 w nc ns) : ∀ (H : Heap) (locs : List Loc) (cells slots : Nat) (ls : Array Slot), HW D cls8 FTc AC A s.heap H locs w → lv_has ls 3 [(0, va_rf (some x0)), (1, .int x1), (2, va_rf x2)] → cells + nc ≤ mc → slots + ns ≤ ms → W p l e { frames := 9, cells := mc, slots := ms, locals := 220 } s m args below meth c H locs cells slots (vx_MQ below (QQ D AC A (fun v w9 => v = none ∧ Q w9)) (XX D AC A (fun _ _ => False)) args s mc ms A) (F0 m 57 ls []) := by
  obtain ⟨hl0, hx, hb, hr, ht, hown, hlocks, hnm, hml, hex, hK, hA, hZ, hV⟩ := id C
  intro H locs cells slots ls hW hl hc hs
  unfold wb_Br_passSecond_57 at hq
  obtain ⟨i1, ei1⟩ : ∃ y : Int32, y = x1 + (-1) := ⟨_, rfl⟩
  have hq := hq i1 ei1
  refine lv_iinc (v := i1) (lv' := [(1, .int i1), (0, va_rf (some x0)), (2, va_rf x2)]) hx hb d_Br_passSecond_57 hl (k := 1) rfl (by rw [ei1]; rfl) (by decide) (by simp [bw_cat, cat_i, cat_j]) (fun ls hl => ?_)
  refine lv_goto (tgt := 24) hx hb d_Br_passSecond_60 (by decide) ?_
  exact hK24 _ _ _ _ _ hq _ _ _ _ _ hW (lv_sub hl [1, 0] rfl) hc hs
def wb_Br_passSecond_100 (e0 mi : Nat) (K65 : Nat → Int32 → Wd → Nat → Nat → Prop) (Q : Wd → Prop) (x0 : Nat) (x1 : Int32) (x2 : Option Nat) (w : Wd) (nc ns : Nat) : Prop :=
  ∀ i1 : Int32, i1 = x1 + 1 → (K65 x0 i1 w nc ns)
set_option maxHeartbeats 4000000 in
set_option maxRecDepth 100000 in
theorem k_Br_passSecond_100 {p : Program} {l : Launch} {e : Env} {s : State} {m : MethodId} {args : Array Value} {below : List Frame} {meth : Method} {c : Code} {D : va_G} {AC : Nat → ClassId} {e0 mi : Nat} {A : Nat → Prop} {mc ms : Nat} {K65 : Nat → Int32 → Wd → Nat → Nat → Prop} {Q : Wd → Prop} (C : Cx p l s m args meth c D AC e0 mi A n_Br_passSecond b_Br_passSecond 3 none) (hK65 : ∀ (x0 : Nat) (x1 : Int32) (w : Wd) (nc ns : Nat), K65 x0 x1 w nc ns → ∀ (H : Heap) (locs : List Loc) (cells slots : Nat) (ls : Array Slot), HW D cls8 FTc AC A s.heap H locs w → lv_has ls 3 [(0, va_rf (some x0)), (1, .int x1)] → cells + nc ≤ mc → slots + ns ≤ ms → W p l e { frames := 9, cells := mc, slots := ms, locals := 220 } s m args below meth c H locs cells slots (vx_MQ below (QQ D AC A (fun v w9 => v = none ∧ Q w9)) (XX D AC A (fun _ _ => False)) args s mc ms A) (F0 m 65 ls [])) (x0 : Nat) (x1 : Int32) (x2 : Option Nat) (w : Wd) (nc ns : Nat) (hq : wb_Br_passSecond_100 e0 mi K65 Q x0 x1 x2 w nc ns) : ∀ (H : Heap) (locs : List Loc) (cells slots : Nat) (ls : Array Slot), HW D cls8 FTc AC A s.heap H locs w → lv_has ls 3 [(0, va_rf (some x0)), (1, .int x1), (2, va_rf x2)] → cells + nc ≤ mc → slots + ns ≤ ms → W p l e { frames := 9, cells := mc, slots := ms, locals := 220 } s m args below meth c H locs cells slots (vx_MQ below (QQ D AC A (fun v w9 => v = none ∧ Q w9)) (XX D AC A (fun _ _ => False)) args s mc ms A) (F0 m 100 ls []) := by
  obtain ⟨hl0, hx, hb, hr, ht, hown, hlocks, hnm, hml, hex, hK, hA, hZ, hV⟩ := id C
  intro H locs cells slots ls hW hl hc hs
  unfold wb_Br_passSecond_100 at hq
  obtain ⟨i1, ei1⟩ : ∃ y : Int32, y = x1 + 1 := ⟨_, rfl⟩
  have hq := hq i1 ei1
  refine lv_iinc (v := i1) (lv' := [(1, .int i1), (0, va_rf (some x0)), (2, va_rf x2)]) hx hb d_Br_passSecond_100 hl (k := 1) rfl (by rw [ei1]; rfl) (by decide) (by simp [bw_cat, cat_i, cat_j]) (fun ls hl => ?_)
  refine lv_goto (tgt := 65) hx hb d_Br_passSecond_103 (by decide) ?_
  exact hK65 _ _ _ _ _ hq _ _ _ _ _ hW (lv_sub hl [1, 0] rfl) hc hs
def wb_Br_passSecond_65 (e0 mi : Nat) (Q : Wd → Prop) : Nat → Nat → Int32 → Wd → Nat → Nat → Prop
  | 0, _, _, _, _, _ => False
  | n + 1, x0, x1, w, nc, ns => bw_is w x0 5 ∧ (∃ a2 : Nat, (wR w x0 0) = some a2 ∧ (bw_is w a2 7 ∧ (wp_Al_size e0 mi a2 w (fun i10 w5 => (i10 ≤ x1 → (Q w5)) ∧ (¬ i10 ≤ x1 → (bw_is w5 x0 5 ∧ (∃ a13 : Nat, (wR w5 x0 0) = some a13 ∧ (bw_is w5 a13 7 ∧ (wp_Al_get e0 mi a13 x1 w5 (fun r21 w16 => (∀ a23, r21 = some a23 → bw_is w16 a23 0) ∧ (∃ a24 : Nat, r21 = some a24 ∧ (bw_is w16 a24 0 ∧ (((wI w16 a24 3) = 0 → (wb_Br_passSecond_100 e0 mi (wb_Br_passSecond_65 e0 mi Q n) Q x0 x1 r21 w16 nc ns)) ∧ (¬ (wI w16 a24 3) = 0 → (bw_is w16 x0 5 ∧ (∃ k30 k31 : Nat, k30 ≤ nc ∧ k31 ≤ ns ∧ wp_Br_moveItems e0 mi x0 r21 w16 k30 k31 (fun w29 => wb_Br_passSecond_100 e0 mi (wb_Br_passSecond_65 e0 mi Q n) Q x0 x1 r21 w29 (nc - k30) (ns - k31))))))))))))))))))
set_option maxHeartbeats 4000000 in
set_option maxRecDepth 100000 in
theorem k_Br_passSecond_65 {p : Program} {l : Launch} {e : Env} {s : State} {m : MethodId} {args : Array Value} {below : List Frame} {meth : Method} {c : Code} {D : va_G} {AC : Nat → ClassId} {e0 mi : Nat} {A : Nat → Prop} {mc ms : Nat} {Q : Wd → Prop} (C : Cx p l s m args meth c D AC e0 mi A n_Br_passSecond b_Br_passSecond 3 none) : ∀ (n : Nat) (x0 : Nat) (x1 : Int32) (w : Wd) (nc ns : Nat), wb_Br_passSecond_65 e0 mi Q n x0 x1 w nc ns → ∀ (H : Heap) (locs : List Loc) (cells slots : Nat) (ls : Array Slot), HW D cls8 FTc AC A s.heap H locs w → lv_has ls 3 [(0, va_rf (some x0)), (1, .int x1)] → cells + nc ≤ mc → slots + ns ≤ ms → W p l e { frames := 9, cells := mc, slots := ms, locals := 220 } s m args below meth c H locs cells slots (vx_MQ below (QQ D AC A (fun v w9 => v = none ∧ Q w9)) (XX D AC A (fun _ _ => False)) args s mc ms A) (F0 m 65 ls []) := by
  obtain ⟨hl0, hx, hb, hr, ht, hown, hlocks, hnm, hml, hex, hK, hA, hZ, hV⟩ := id C
  intro n
  induction n with
  | zero =>
    intro x0 x1 w nc ns hq
    exact hq.elim
  | succ n ih =>
    intro x0 x1 w nc ns hq H locs cells slots ls hW hl hc hs
    have hK65 := ih
    unfold wb_Br_passSecond_65 at hq
    refine lv_iload_n hx hb d_Br_passSecond_65 rfl (lv_at hl 1 rfl) ?_
    refine bw_aload_n hx hb d_Br_passSecond_66 rfl (lv_at hl 0 rfl) ?_
    obtain ⟨t1, hq⟩ := hq
    refine bw_getR hx hb ht in_Br hown hK hW rfl t1 (by decide) rfl 0 (by decide) rfl (ht _ m_59) (fun _ h => h) d_Br_passSecond_67 ?_
    obtain ⟨a2, ea2, hq⟩ := hq
    obtain ⟨t3, hq⟩ := hq
    refine bw_callV (As := []) (rest := [.int x1]) C hW ci_Al_size m_91 m_92 m_93 d_Br_passSecond_70 ea2 t3 (by decide) rfl rfl rfl hl.1 (by simp [bw_cat, cat_i, cat_j]) ⟨Nat.le_of_ble_eq_true rfl, Nat.le_of_ble_eq_true rfl⟩ ⟨Nat.le_trans (Nat.add_le_add_left (Nat.zero_le _) _) hc, Nat.le_trans (Nat.add_le_add_left (Nat.zero_le _) _) hs⟩ (c_Al_size hl0 _ _ hq) (fun _ _ _ _ _ _ h => h.elim) (fun v4 w5 H locs hv hW => ?_)
    obtain ⟨i10, rfl, hq⟩ := hv
    have hc := bw_bud0 hc
    have hs := bw_bud0 hs
    refine W.eq (g2 := F0 m 73 ls [.int i10, .int x1]) rfl ?_
    refine lv_icmp_ge (tgt := 106) hx hb d_Br_passSecond_73 (by decide) (fun c11 => ?_) (fun c11 => ?_)
    · have hq := hq.1 c11
      exact bw_vret C hW ⟨rfl, hq⟩ d_Br_passSecond_106 (Nat.le_trans (Nat.le_add_right _ _) hc) (Nat.le_trans (Nat.le_add_right _ _) hs)
    · have hq := hq.2 c11
      refine bw_aload_n hx hb d_Br_passSecond_76 rfl (lv_at hl 0 rfl) ?_
      obtain ⟨t12, hq⟩ := hq
      refine bw_getR hx hb ht in_Br hown hK hW rfl t12 (by decide) rfl 0 (by decide) rfl (ht _ m_59) (fun _ h => h) d_Br_passSecond_77 ?_
      refine lv_iload_n hx hb d_Br_passSecond_80 rfl (lv_at hl 1 rfl) ?_
      obtain ⟨a13, ea13, hq⟩ := hq
      obtain ⟨t14, hq⟩ := hq
      refine bw_callV (As := [.int x1]) (rest := []) C hW ci_Al_get m_99 m_100 m_101 d_Br_passSecond_81 ea13 t14 (by decide) rfl rfl rfl hl.1 (by decide) ⟨Nat.le_of_ble_eq_true rfl, Nat.le_of_ble_eq_true rfl⟩ ⟨Nat.le_trans (Nat.add_le_add_left (Nat.zero_le _) _) hc, Nat.le_trans (Nat.add_le_add_left (Nat.zero_le _) _) hs⟩ (c_Al_get hl0 _ _ _ hq) (fun _ _ _ _ _ _ h => h.elim) (fun v15 w16 H locs hv hW => ?_)
      obtain ⟨r21, rfl, hq⟩ := hv
      have hc := bw_bud0 hc
      have hs := bw_bud0 hs
      refine W.eq (g2 := F0 m 84 ls [va_rf r21]) rfl ?_
      obtain ⟨h22, hq⟩ := hq
      refine bw_cast C hW m_113 (cn := 0) rfl (by decide) (by decide +kernel) h22 d_Br_passSecond_84 ?_
      refine bw_astore_n (i := 2) (lv' := [(2, va_rf r21), (0, va_rf (some x0)), (1, .int x1)]) hx hb d_Br_passSecond_87 rfl hl (by decide) (by simp [bw_cat, cat_i, cat_j]) (fun ls hl => ?_)
      refine bw_aload_n hx hb d_Br_passSecond_88 rfl (lv_at hl 0 rfl) ?_
      obtain ⟨a24, ea24, hq⟩ := hq
      obtain ⟨t25, hq⟩ := hq
      refine bw_getI hx hb ht in_Bt hown hK hW ea24 t25 (by decide) rfl 3 (by decide) rfl (ht _ m_246) (fun _ h => h) d_Br_passSecond_89 ?_
      refine lv_if_eq (tgt := 100) hx hb d_Br_passSecond_92 (by decide) (fun c26 => ?_) (fun c26 => ?_)
      · have hq := hq.1 c26
        exact k_Br_passSecond_100 C hK65 _ _ _ _ _ _ hq _ _ _ _ _ hW (lv_sub hl [1, 2, 0] rfl) hc hs
      · have hq := hq.2 c26
        refine bw_aload_n hx hb d_Br_passSecond_95 rfl (lv_at hl 1 rfl) ?_
        refine bw_aload_n hx hb d_Br_passSecond_96 rfl (lv_at hl 0 rfl) ?_
        obtain ⟨t27, hq⟩ := hq
        obtain ⟨k30, k31, h32, h33, hq⟩ := hq
        refine bw_callV (As := [va_rf r21]) (rest := []) C hW ci_Br_moveItems m_630 m_632 sel_Br_moveItems d_Br_passSecond_97 rfl t27 (by decide) rfl rfl rfl hl.1 (by decide) ⟨Nat.le_of_ble_eq_true rfl, Nat.le_of_ble_eq_true rfl⟩ ⟨Nat.le_trans (Nat.add_le_add_left h32 _) hc, Nat.le_trans (Nat.add_le_add_left h33 _) hs⟩ (c_Br_moveItems hl0 _ _ _ _ _ hq) (fun _ _ _ _ _ _ h => h.elim) (fun v28 w29 H locs hv hW => ?_)
        obtain ⟨rfl, hq⟩ := hv
        have hc := bw_bud hc h32
        have hs := bw_bud hs h33
        refine W.eq (g2 := F0 m 100 ls []) rfl ?_
        exact k_Br_passSecond_100 C hK65 _ _ _ _ _ _ hq _ _ _ _ _ hW (lv_sub hl [1, 2, 0] rfl) hc hs
def wb_Br_passSecond_24 (e0 mi : Nat) (Q : Wd → Prop) : Nat → Nat → Int32 → Wd → Nat → Nat → Prop
  | 0, _, _, _, _, _ => False
  | n + 1, x0, x1, w, nc, ns => (x1 < 0 → (∃ n2 : Nat, wb_Br_passSecond_65 e0 mi Q n2 x0 (0 : Int32) w nc ns)) ∧ (¬ x1 < 0 → (bw_is w x0 5 ∧ (∃ a4 : Nat, (wR w x0 0) = some a4 ∧ (bw_is w a4 7 ∧ (wp_Al_get e0 mi a4 x1 w (fun r12 w7 => (∀ a14, r12 = some a14 → bw_is w7 a14 0) ∧ (∃ a15 : Nat, r12 = some a15 ∧ (bw_is w7 a15 0 ∧ (((wI w7 a15 3) = 0 → (wb_Br_passSecond_57 e0 mi (wb_Br_passSecond_24 e0 mi Q n) Q x0 x1 r12 w7 nc ns)) ∧ (¬ (wI w7 a15 3) = 0 → (bw_is w7 x0 5 ∧ (∃ k21 k22 : Nat, k21 ≤ nc ∧ k22 ≤ ns ∧ wp_Br_letOut e0 mi x0 r12 w7 k21 k22 (fun w20 => bw_is w20 x0 5 ∧ (∃ k29 k30 : Nat, k29 ≤ (nc - k21) ∧ k30 ≤ (ns - k22) ∧ wp_Br_passOnTo e0 mi x0 r12 w20 k29 k30 (fun w28 => wb_Br_passSecond_57 e0 mi (wb_Br_passSecond_24 e0 mi Q n) Q x0 x1 r12 w28 ((nc - k21) - k29) ((ns - k22) - k30))))))))))))))))
set_option maxHeartbeats 4000000 in
set_option maxRecDepth 100000 in
theorem k_Br_passSecond_24 {p : Program} {l : Launch} {e : Env} {s : State} {m : MethodId} {args : Array Value} {below : List Frame} {meth : Method} {c : Code} {D : va_G} {AC : Nat → ClassId} {e0 mi : Nat} {A : Nat → Prop} {mc ms : Nat} {Q : Wd → Prop} (C : Cx p l s m args meth c D AC e0 mi A n_Br_passSecond b_Br_passSecond 3 none) : ∀ (n : Nat) (x0 : Nat) (x1 : Int32) (w : Wd) (nc ns : Nat), wb_Br_passSecond_24 e0 mi Q n x0 x1 w nc ns → ∀ (H : Heap) (locs : List Loc) (cells slots : Nat) (ls : Array Slot), HW D cls8 FTc AC A s.heap H locs w → lv_has ls 3 [(0, va_rf (some x0)), (1, .int x1)] → cells + nc ≤ mc → slots + ns ≤ ms → W p l e { frames := 9, cells := mc, slots := ms, locals := 220 } s m args below meth c H locs cells slots (vx_MQ below (QQ D AC A (fun v w9 => v = none ∧ Q w9)) (XX D AC A (fun _ _ => False)) args s mc ms A) (F0 m 24 ls []) := by
  obtain ⟨hl0, hx, hb, hr, ht, hown, hlocks, hnm, hml, hex, hK, hA, hZ, hV⟩ := id C
  intro n
  induction n with
  | zero =>
    intro x0 x1 w nc ns hq
    exact hq.elim
  | succ n ih =>
    intro x0 x1 w nc ns hq H locs cells slots ls hW hl hc hs
    have hK24 := ih
    unfold wb_Br_passSecond_24 at hq
    refine lv_iload_n hx hb d_Br_passSecond_24 rfl (lv_at hl 1 rfl) ?_
    refine lv_if_lt (tgt := 63) hx hb d_Br_passSecond_25 (by decide) (fun c1 => ?_) (fun c1 => ?_)
    · have hq := hq.1 c1
      refine lv_iconst (v := 0) hx hb d_Br_passSecond_63 (by decide) ?_
      refine lv_istore_n (i := 1) (lv' := [(1, .int (0 : Int32)), (0, va_rf (some x0))]) hx hb d_Br_passSecond_64 rfl hl (by decide) (by simp [bw_cat, cat_i, cat_j]) (fun ls hl => ?_)
      obtain ⟨n2, hq⟩ := hq
      exact k_Br_passSecond_65 C  n2 _ _ _ _ _ hq _ _ _ _ _ hW (lv_sub hl [1, 0] rfl) hc hs
    · have hq := hq.2 c1
      refine bw_aload_n hx hb d_Br_passSecond_28 rfl (lv_at hl 0 rfl) ?_
      obtain ⟨t3, hq⟩ := hq
      refine bw_getR hx hb ht in_Br hown hK hW rfl t3 (by decide) rfl 0 (by decide) rfl (ht _ m_59) (fun _ h => h) d_Br_passSecond_29 ?_
      refine lv_iload_n hx hb d_Br_passSecond_32 rfl (lv_at hl 1 rfl) ?_
      obtain ⟨a4, ea4, hq⟩ := hq
      obtain ⟨t5, hq⟩ := hq
      refine bw_callV (As := [.int x1]) (rest := []) C hW ci_Al_get m_99 m_100 m_101 d_Br_passSecond_33 ea4 t5 (by decide) rfl rfl rfl hl.1 (by decide) ⟨Nat.le_of_ble_eq_true rfl, Nat.le_of_ble_eq_true rfl⟩ ⟨Nat.le_trans (Nat.add_le_add_left (Nat.zero_le _) _) hc, Nat.le_trans (Nat.add_le_add_left (Nat.zero_le _) _) hs⟩ (c_Al_get hl0 _ _ _ hq) (fun _ _ _ _ _ _ h => h.elim) (fun v6 w7 H locs hv hW => ?_)
      obtain ⟨r12, rfl, hq⟩ := hv
      have hc := bw_bud0 hc
      have hs := bw_bud0 hs
      refine W.eq (g2 := F0 m 36 ls [va_rf r12]) rfl ?_
      obtain ⟨h13, hq⟩ := hq
      refine bw_cast C hW m_113 (cn := 0) rfl (by decide) (by decide +kernel) h13 d_Br_passSecond_36 ?_
      refine bw_astore_n (i := 2) (lv' := [(2, va_rf r12), (0, va_rf (some x0)), (1, .int x1)]) hx hb d_Br_passSecond_39 rfl hl (by decide) (by simp [bw_cat, cat_i, cat_j]) (fun ls hl => ?_)
      refine bw_aload_n hx hb d_Br_passSecond_40 rfl (lv_at hl 0 rfl) ?_
      obtain ⟨a15, ea15, hq⟩ := hq
      obtain ⟨t16, hq⟩ := hq
      refine bw_getI hx hb ht in_Bt hown hK hW ea15 t16 (by decide) rfl 3 (by decide) rfl (ht _ m_246) (fun _ h => h) d_Br_passSecond_41 ?_
      refine lv_if_eq (tgt := 57) hx hb d_Br_passSecond_44 (by decide) (fun c17 => ?_) (fun c17 => ?_)
      · have hq := hq.1 c17
        exact k_Br_passSecond_57 C hK24 _ _ _ _ _ _ hq _ _ _ _ _ hW (lv_sub hl [1, 2, 0] rfl) hc hs
      · have hq := hq.2 c17
        refine bw_aload_n hx hb d_Br_passSecond_47 rfl (lv_at hl 1 rfl) ?_
        refine bw_aload_n hx hb d_Br_passSecond_48 rfl (lv_at hl 0 rfl) ?_
        obtain ⟨t18, hq⟩ := hq
        obtain ⟨k21, k22, h23, h24, hq⟩ := hq
        refine bw_callV (As := [va_rf r12]) (rest := []) C hW ci_Br_letOut m_568 m_570 sel_Br_letOut d_Br_passSecond_49 rfl t18 (by decide) rfl rfl rfl hl.1 (by decide) ⟨Nat.le_of_ble_eq_true rfl, Nat.le_of_ble_eq_true rfl⟩ ⟨Nat.le_trans (Nat.add_le_add_left h23 _) hc, Nat.le_trans (Nat.add_le_add_left h24 _) hs⟩ (c_Br_letOut hl0 _ _ _ _ _ hq) (fun _ _ _ _ _ _ h => h.elim) (fun v19 w20 H locs hv hW => ?_)
        obtain ⟨rfl, hq⟩ := hv
        have hc := bw_bud hc h23
        have hs := bw_bud hs h24
        refine W.eq (g2 := F0 m 52 ls []) rfl ?_
        refine bw_aload_n hx hb d_Br_passSecond_52 rfl (lv_at hl 1 rfl) ?_
        refine bw_aload_n hx hb d_Br_passSecond_53 rfl (lv_at hl 0 rfl) ?_
        obtain ⟨t26, hq⟩ := hq
        obtain ⟨k29, k30, h31, h32, hq⟩ := hq
        refine bw_callV (As := [va_rf r12]) (rest := []) C hW ci_Br_passOnTo m_611 m_613 sel_Br_passOnTo d_Br_passSecond_54 rfl t26 (by decide) rfl rfl rfl hl.1 (by decide) ⟨Nat.le_of_ble_eq_true rfl, Nat.le_of_ble_eq_true rfl⟩ ⟨Nat.le_trans (Nat.add_le_add_left h31 _) hc, Nat.le_trans (Nat.add_le_add_left h32 _) hs⟩ (c_Br_passOnTo hl0 _ _ _ _ _ hq) (fun _ _ _ _ _ _ h => h.elim) (fun v27 w28 H locs hv hW => ?_)
        obtain ⟨rfl, hq⟩ := hv
        have hc := bw_bud hc h31
        have hs := bw_bud hs h32
        refine W.eq (g2 := F0 m 57 ls []) rfl ?_
        exact k_Br_passSecond_57 C hK24 _ _ _ _ _ _ hq _ _ _ _ _ hW (lv_sub hl [1, 2, 0] rfl) hc hs
def wp_Br_passSecond (e0 mi : Nat) (x0 : Nat) (w : Wd) (nc ns : Nat) (Q : Wd → Prop) : Prop :=
  bw_is w x0 5 ∧ (∃ k4 k5 : Nat, k4 ≤ nc ∧ k5 ≤ ns ∧ wp_Br_tellReads e0 mi x0 (sI w x0 7 ((wI w x0 7) + (1 : Int32))) k4 k5 (fun w3 => bw_is w3 x0 5 ∧ (∃ a10 : Nat, (wR w3 x0 0) = some a10 ∧ (bw_is w3 a10 7 ∧ (wp_Al_size e0 mi a10 w3 (fun i18 w13 => ∀ i19 : Int32, i19 = i18 - (1 : Int32) → (∃ n20 : Nat, wb_Br_passSecond_24 e0 mi Q n20 x0 i19 w13 (nc - k4) (ns - k5))))))))
set_option maxHeartbeats 4000000 in
set_option maxRecDepth 100000 in
theorem k_Br_passSecond_0 {p : Program} {l : Launch} {e : Env} {s : State} {m : MethodId} {args : Array Value} {below : List Frame} {meth : Method} {c : Code} {D : va_G} {AC : Nat → ClassId} {e0 mi : Nat} {A : Nat → Prop} {mc ms : Nat} {Q : Wd → Prop} (C : Cx p l s m args meth c D AC e0 mi A n_Br_passSecond b_Br_passSecond 3 none) (x0 : Nat) (w : Wd) (nc ns : Nat) (hq : wp_Br_passSecond e0 mi x0 w nc ns Q) : ∀ (H : Heap) (locs : List Loc) (cells slots : Nat) (ls : Array Slot), HW D cls8 FTc AC A s.heap H locs w → lv_has ls 3 [(0, va_rf (some x0))] → cells + nc ≤ mc → slots + ns ≤ ms → W p l e { frames := 9, cells := mc, slots := ms, locals := 220 } s m args below meth c H locs cells slots (vx_MQ below (QQ D AC A (fun v w9 => v = none ∧ Q w9)) (XX D AC A (fun _ _ => False)) args s mc ms A) (F0 m 0 ls []) := by
  obtain ⟨hl0, hx, hb, hr, ht, hown, hlocks, hnm, hml, hex, hK, hA, hZ, hV⟩ := id C
  intro H locs cells slots ls hW hl hc hs
  unfold wp_Br_passSecond at hq
  refine bw_aload_n hx hb d_Br_passSecond_0 rfl (lv_at hl 0 rfl) ?_
  refine lv_dup hx hb d_Br_passSecond_1 (bw_cat _) ?_
  obtain ⟨t1, hq⟩ := hq
  refine bw_getI hx hb ht in_Br hown hK hW rfl t1 (by decide) rfl 7 (by decide) rfl (ht _ m_66) (fun _ h => h) d_Br_passSecond_2 ?_
  refine lv_iconst (v := 1) hx hb d_Br_passSecond_5 (by decide) ?_
  refine lv_iadd hx hb d_Br_passSecond_6 ?_
  refine bw_putI hx hb ht in_Br y_Br yk_Br nm_Br hown hK hW rfl t1 (by decide) rfl 7 (by decide) rfl (ht _ m_66) (fun _ h => h) (Or.inl rfl) rfl rfl d_Br_passSecond_7 (fun H locs hW => ?_)
  refine bw_aload_n hx hb d_Br_passSecond_10 rfl (lv_at hl 0 rfl) ?_
  obtain ⟨k4, k5, h6, h7, hq⟩ := hq
  refine bw_callV (As := []) (rest := []) C hW ci_Br_tellReads m_546 m_548 sel_Br_tellReads d_Br_passSecond_11 rfl t1 (by decide) rfl rfl rfl hl.1 (by decide) ⟨Nat.le_of_ble_eq_true rfl, Nat.le_of_ble_eq_true rfl⟩ ⟨Nat.le_trans (Nat.add_le_add_left h6 _) hc, Nat.le_trans (Nat.add_le_add_left h7 _) hs⟩ (c_Br_tellReads hl0 _ _ _ _ hq) (fun _ _ _ _ _ _ h => h.elim) (fun v2 w3 H locs hv hW => ?_)
  obtain ⟨rfl, hq⟩ := hv
  have hc := bw_bud hc h6
  have hs := bw_bud hs h7
  refine W.eq (g2 := F0 m 14 ls []) rfl ?_
  refine bw_aload_n hx hb d_Br_passSecond_14 rfl (lv_at hl 0 rfl) ?_
  obtain ⟨t9, hq⟩ := hq
  refine bw_getR hx hb ht in_Br hown hK hW rfl t9 (by decide) rfl 0 (by decide) rfl (ht _ m_59) (fun _ h => h) d_Br_passSecond_15 ?_
  obtain ⟨a10, ea10, hq⟩ := hq
  obtain ⟨t11, hq⟩ := hq
  refine bw_callV (As := []) (rest := []) C hW ci_Al_size m_91 m_92 m_93 d_Br_passSecond_18 ea10 t11 (by decide) rfl rfl rfl hl.1 (by decide) ⟨Nat.le_of_ble_eq_true rfl, Nat.le_of_ble_eq_true rfl⟩ ⟨Nat.le_trans (Nat.add_le_add_left (Nat.zero_le _) _) hc, Nat.le_trans (Nat.add_le_add_left (Nat.zero_le _) _) hs⟩ (c_Al_size hl0 _ _ hq) (fun _ _ _ _ _ _ h => h.elim) (fun v12 w13 H locs hv hW => ?_)
  obtain ⟨i18, rfl, hq⟩ := hv
  have hc := bw_bud0 hc
  have hs := bw_bud0 hs
  refine W.eq (g2 := F0 m 21 ls [.int i18]) rfl ?_
  refine lv_iconst (v := 1) hx hb d_Br_passSecond_21 (by decide) ?_
  refine lv_isub hx hb d_Br_passSecond_22 ?_
  refine lv_topi (fun i19 ei19 => ?_)
  have hq := hq i19 ei19
  refine lv_istore_n (i := 1) (lv' := [(1, .int i19), (0, va_rf (some x0))]) hx hb d_Br_passSecond_23 rfl hl (by decide) (by simp [bw_cat, cat_i, cat_j]) (fun ls hl => ?_)
  obtain ⟨n20, hq⟩ := hq
  exact k_Br_passSecond_24 C  n20 _ _ _ _ _ hq _ _ _ _ _ hW (lv_sub hl [1, 0] rfl) hc hs
theorem ci_Br_passSecond : CI n_Br_passSecond b_Br_passSecond 3 none 0 := ⟨m_545, m_1, by decide, by decide, by decide +kernel⟩
theorem sel_Br_passSecond : Cond.selects "BeltRows" n_Br_passSecond n_Br_passSecond ∈ TBL := List.mem_filter.mpr ⟨List.mem_append_left _ (List.mem_map.mpr ⟨(n_Br_passSecond, 9), by decide +kernel, rfl⟩), rfl⟩
theorem c_Br_passSecond {l : Launch} {D : va_G} {AC : Nat → ClassId} {e0 mi : Nat} {Q : Wd → Prop} (hl0 : l.stackTraces = false) (x0 : Nat) (w : Wd) (nc ns : Nat) (hq : wp_Br_passSecond e0 mi x0 w nc ns Q) : Ct l D AC e0 mi n_Br_passSecond (wy n_Br_passSecond b_Br_passSecond 3 none) 9 220 [va_rf (some x0)] w nc ns (fun v w9 => v = none ∧ Q w9) (fun _ _ => False) :=
  Ct.of hl0 (by decide) (by simp [lg_sl, bw_cat, cat_i, cat_j]) (fun p e s m args below meth c A ls C hW hl => k_Br_passSecond_0 C x0 w nc ns hq s.heap [] 0 0 ls hW (by simpa [lv_args, bw_cat, cat_i, cat_j] using hl) (Nat.le_of_eq (Nat.zero_add _)) (Nat.le_of_eq (Nat.zero_add _)))
def wp_Br_init (e0 mi : Nat) (x0 : Nat) (w : Wd) (nc ns : Nat) (Q : Wd → Prop) : Prop :=
  1 ≤ nc ∧ 3 ≤ ns ∧ ∀ q1 : Nat, q1 ∉ wL w → ∀ w5 : Wd, w5 = bw_new w q1 7 0 → (wp_Al_init e0 mi q1 w5 (fun w8 => bw_is w8 x0 5 ∧ (1 ≤ (nc - 1) ∧ 3 ≤ (ns - 3) ∧ ∀ q15 : Nat, q15 ∉ wL (sR w8 x0 0 (some q1)) → ∀ w19 : Wd, w19 = bw_new (sR w8 x0 0 (some q1)) q15 7 0 → (wp_Al_init e0 mi q15 w19 (fun w22 => bw_is w22 x0 5 ∧ (1 ≤ ((nc - 1) - 1) ∧ 3 ≤ ((ns - 3) - 3) ∧ ∀ q29 : Nat, q29 ∉ wL (sR w22 x0 1 (some q15)) → ∀ w33 : Wd, w33 = bw_new (sR w22 x0 1 (some q15)) q29 7 0 → (wp_Al_init e0 mi q29 w33 (fun w36 => bw_is w36 x0 5 ∧ (1 ≤ (((nc - 1) - 1) - 1) ∧ 3 ≤ (((ns - 3) - 3) - 3) ∧ ∀ q43 : Nat, q43 ∉ wL (sR w36 x0 2 (some q29)) → ∀ w47 : Wd, w47 = bw_new (sR w36 x0 2 (some q29)) q43 7 0 → (wp_Al_init e0 mi q43 w47 (fun w50 => bw_is w50 x0 5 ∧ (1 ≤ ((((nc - 1) - 1) - 1) - 1) ∧ 3 ≤ ((((ns - 3) - 3) - 3) - 3) ∧ ∀ q57 : Nat, q57 ∉ wL (sR w50 x0 3 (some q43)) → ∀ w61 : Wd, w61 = bw_new (sR w50 x0 3 (some q43)) q57 7 0 → (wp_Al_init e0 mi q57 w61 (fun w64 => bw_is w64 x0 5 ∧ (1 ≤ (((((nc - 1) - 1) - 1) - 1) - 1) ∧ 3 ≤ (((((ns - 3) - 3) - 3) - 3) - 3) ∧ ∀ q71 : Nat, q71 ∉ wL (sR w64 x0 4 (some q57)) → ∀ w75 : Wd, w75 = bw_new (sR w64 x0 4 (some q57)) q71 7 0 → (wp_Al_init e0 mi q71 w75 (fun w78 => bw_is w78 x0 5 ∧ (Q (sI (sI (sI (sR w78 x0 5 (some q71)) x0 6 (100 : Int32)) x0 7 (0 : Int32)) x0 8 (0 : Int32))))))))))))))))))))
set_option maxHeartbeats 4000000 in
set_option maxRecDepth 100000 in
theorem k_Br_init_0 {p : Program} {l : Launch} {e : Env} {s : State} {m : MethodId} {args : Array Value} {below : List Frame} {meth : Method} {c : Code} {D : va_G} {AC : Nat → ClassId} {e0 mi : Nat} {A : Nat → Prop} {mc ms : Nat} {Q : Wd → Prop} (C : Cx p l s m args meth c D AC e0 mi A n_Br_init b_Br_init 1 none) (x0 : Nat) (w : Wd) (nc ns : Nat) (hq : wp_Br_init e0 mi x0 w nc ns Q) : ∀ (H : Heap) (locs : List Loc) (cells slots : Nat) (ls : Array Slot), HW D cls8 FTc AC A s.heap H locs w → lv_has ls 1 [(0, va_rf (some x0))] → cells + nc ≤ mc → slots + ns ≤ ms → W p l e { frames := 4, cells := mc, slots := ms, locals := 100 } s m args below meth c H locs cells slots (vx_MQ below (QQ D AC A (fun v w9 => v = none ∧ Q w9)) (XX D AC A (fun _ _ => False)) args s mc ms A) (F0 m 0 ls []) := by
  obtain ⟨hl0, hx, hb, hr, ht, hown, hlocks, hnm, hml, hex, hK, hA, hZ, hV⟩ := id C
  intro H locs cells slots ls hW hl hc hs
  unfold wp_Br_init at hq
  refine bw_aload_n hx hb d_Br_init_0 rfl (lv_at hl 0 rfl) ?_
  refine W.objInit hx hb hown (ht _ m_30) (ht _ m_31) (ht _ m_32) rfl (by rw [hml]; exact hl.1) rfl d_Br_init_1 (Nat.le_of_ble_eq_true rfl) (Nat.le_of_ble_eq_true rfl) ?_
  refine W.eq (g2 := F0 m 4 ls []) rfl ?_
  refine bw_aload_n hx hb d_Br_init_4 rfl (lv_at hl 0 rfl) ?_
  obtain ⟨h2, h3, hq⟩ := hq
  refine bw_mk (ci := 7) hx hb ht in_Al y_Al yk_Al hown (ht _ m_33) (ht _ m_34) (ht _ m_4) hK hW hA (by decide) (by rfl) df_Al (Nat.le_trans (Nat.add_le_add_left h2 _) hc) (Nat.le_trans (Nat.add_le_add_left h3 _) hs) d_Br_init_5 (fun q1 H n4 hW => ?_)
  obtain ⟨w5, ew5⟩ : ∃ z : Wd, z = bw_new w q1 7 0 := ⟨_, rfl⟩
  rw [← ew5] at hW
  have hq := hq q1 n4 w5 ew5
  have hc := bw_bud hc h2
  have hs := bw_bud hs h3
  have t6 : bw_is w5 q1 7 := by rw [ew5]; exact bw_is_self _ _ _ _
  refine lv_dup hx hb d_Br_init_8 (bw_cat _) ?_
  refine bw_callI (As := []) (rest := [va_rf (some q1), va_rf (some x0)]) C hW ci_Al_init rfl m_35 m_36 d_Br_init_9 rfl rfl hl.1 (by simp [bw_cat, cat_i, cat_j]) ⟨Nat.le_of_ble_eq_true rfl, Nat.le_of_ble_eq_true rfl⟩ ⟨Nat.le_trans (Nat.add_le_add_left (Nat.zero_le _) _) hc, Nat.le_trans (Nat.add_le_add_left (Nat.zero_le _) _) hs⟩ (c_Al_init hl0 _ _ hq) (fun v7 w8 H locs hv hW => ?_)
  obtain ⟨rfl, hq⟩ := hv
  have hc := bw_bud0 hc
  have hs := bw_bud0 hs
  refine W.eq (g2 := F0 m 12 ls [va_rf (some q1), va_rf (some x0)]) rfl ?_
  obtain ⟨t14, hq⟩ := hq
  refine bw_putR hx hb ht in_Br y_Br yk_Br nm_Br hown hK hW rfl t14 (by decide) rfl 0 (by decide) rfl (ht _ m_59) (fun _ h => h) (Or.inr ⟨rfl, hnm, rfl⟩) (bw_nr _ _) (bw_fr _ _) d_Br_init_12 (fun H locs hW => ?_)
  refine bw_aload_n hx hb d_Br_init_15 rfl (lv_at hl 0 rfl) ?_
  obtain ⟨h16, h17, hq⟩ := hq
  refine bw_mk (ci := 7) hx hb ht in_Al y_Al yk_Al hown (ht _ m_33) (ht _ m_34) (ht _ m_4) hK hW hA (by decide) (by rfl) df_Al (Nat.le_trans (Nat.add_le_add_left h16 _) hc) (Nat.le_trans (Nat.add_le_add_left h17 _) hs) d_Br_init_16 (fun q15 H n18 hW => ?_)
  obtain ⟨w19, ew19⟩ : ∃ z : Wd, z = bw_new (sR w8 x0 0 (some q1)) q15 7 0 := ⟨_, rfl⟩
  rw [← ew19] at hW
  have hq := hq q15 n18 w19 ew19
  have hc := bw_bud hc h16
  have hs := bw_bud hs h17
  have t14 : bw_is w19 x0 5 := by rw [ew19]; exact bw_is_new n18 t14
  have t20 : bw_is w19 q15 7 := by rw [ew19]; exact bw_is_self _ _ _ _
  refine lv_dup hx hb d_Br_init_19 (bw_cat _) ?_
  refine bw_callI (As := []) (rest := [va_rf (some q15), va_rf (some x0)]) C hW ci_Al_init rfl m_35 m_36 d_Br_init_20 rfl rfl hl.1 (by simp [bw_cat, cat_i, cat_j]) ⟨Nat.le_of_ble_eq_true rfl, Nat.le_of_ble_eq_true rfl⟩ ⟨Nat.le_trans (Nat.add_le_add_left (Nat.zero_le _) _) hc, Nat.le_trans (Nat.add_le_add_left (Nat.zero_le _) _) hs⟩ (c_Al_init hl0 _ _ hq) (fun v21 w22 H locs hv hW => ?_)
  obtain ⟨rfl, hq⟩ := hv
  have hc := bw_bud0 hc
  have hs := bw_bud0 hs
  refine W.eq (g2 := F0 m 23 ls [va_rf (some q15), va_rf (some x0)]) rfl ?_
  obtain ⟨t28, hq⟩ := hq
  refine bw_putR hx hb ht in_Br y_Br yk_Br nm_Br hown hK hW rfl t28 (by decide) rfl 1 (by decide) rfl (ht _ m_60) (fun _ h => h) (Or.inr ⟨rfl, hnm, rfl⟩) (bw_nr _ _) (bw_fr _ _) d_Br_init_23 (fun H locs hW => ?_)
  refine bw_aload_n hx hb d_Br_init_26 rfl (lv_at hl 0 rfl) ?_
  obtain ⟨h30, h31, hq⟩ := hq
  refine bw_mk (ci := 7) hx hb ht in_Al y_Al yk_Al hown (ht _ m_33) (ht _ m_34) (ht _ m_4) hK hW hA (by decide) (by rfl) df_Al (Nat.le_trans (Nat.add_le_add_left h30 _) hc) (Nat.le_trans (Nat.add_le_add_left h31 _) hs) d_Br_init_27 (fun q29 H n32 hW => ?_)
  obtain ⟨w33, ew33⟩ : ∃ z : Wd, z = bw_new (sR w22 x0 1 (some q15)) q29 7 0 := ⟨_, rfl⟩
  rw [← ew33] at hW
  have hq := hq q29 n32 w33 ew33
  have hc := bw_bud hc h30
  have hs := bw_bud hs h31
  have t28 : bw_is w33 x0 5 := by rw [ew33]; exact bw_is_new n32 t28
  have t34 : bw_is w33 q29 7 := by rw [ew33]; exact bw_is_self _ _ _ _
  refine lv_dup hx hb d_Br_init_30 (bw_cat _) ?_
  refine bw_callI (As := []) (rest := [va_rf (some q29), va_rf (some x0)]) C hW ci_Al_init rfl m_35 m_36 d_Br_init_31 rfl rfl hl.1 (by simp [bw_cat, cat_i, cat_j]) ⟨Nat.le_of_ble_eq_true rfl, Nat.le_of_ble_eq_true rfl⟩ ⟨Nat.le_trans (Nat.add_le_add_left (Nat.zero_le _) _) hc, Nat.le_trans (Nat.add_le_add_left (Nat.zero_le _) _) hs⟩ (c_Al_init hl0 _ _ hq) (fun v35 w36 H locs hv hW => ?_)
  obtain ⟨rfl, hq⟩ := hv
  have hc := bw_bud0 hc
  have hs := bw_bud0 hs
  refine W.eq (g2 := F0 m 34 ls [va_rf (some q29), va_rf (some x0)]) rfl ?_
  obtain ⟨t42, hq⟩ := hq
  refine bw_putR hx hb ht in_Br y_Br yk_Br nm_Br hown hK hW rfl t42 (by decide) rfl 2 (by decide) rfl (ht _ m_61) (fun _ h => h) (Or.inr ⟨rfl, hnm, rfl⟩) (bw_nr _ _) (bw_fr _ _) d_Br_init_34 (fun H locs hW => ?_)
  refine bw_aload_n hx hb d_Br_init_37 rfl (lv_at hl 0 rfl) ?_
  obtain ⟨h44, h45, hq⟩ := hq
  refine bw_mk (ci := 7) hx hb ht in_Al y_Al yk_Al hown (ht _ m_33) (ht _ m_34) (ht _ m_4) hK hW hA (by decide) (by rfl) df_Al (Nat.le_trans (Nat.add_le_add_left h44 _) hc) (Nat.le_trans (Nat.add_le_add_left h45 _) hs) d_Br_init_38 (fun q43 H n46 hW => ?_)
  obtain ⟨w47, ew47⟩ : ∃ z : Wd, z = bw_new (sR w36 x0 2 (some q29)) q43 7 0 := ⟨_, rfl⟩
  rw [← ew47] at hW
  have hq := hq q43 n46 w47 ew47
  have hc := bw_bud hc h44
  have hs := bw_bud hs h45
  have t42 : bw_is w47 x0 5 := by rw [ew47]; exact bw_is_new n46 t42
  have t48 : bw_is w47 q43 7 := by rw [ew47]; exact bw_is_self _ _ _ _
  refine lv_dup hx hb d_Br_init_41 (bw_cat _) ?_
  refine bw_callI (As := []) (rest := [va_rf (some q43), va_rf (some x0)]) C hW ci_Al_init rfl m_35 m_36 d_Br_init_42 rfl rfl hl.1 (by simp [bw_cat, cat_i, cat_j]) ⟨Nat.le_of_ble_eq_true rfl, Nat.le_of_ble_eq_true rfl⟩ ⟨Nat.le_trans (Nat.add_le_add_left (Nat.zero_le _) _) hc, Nat.le_trans (Nat.add_le_add_left (Nat.zero_le _) _) hs⟩ (c_Al_init hl0 _ _ hq) (fun v49 w50 H locs hv hW => ?_)
  obtain ⟨rfl, hq⟩ := hv
  have hc := bw_bud0 hc
  have hs := bw_bud0 hs
  refine W.eq (g2 := F0 m 45 ls [va_rf (some q43), va_rf (some x0)]) rfl ?_
  obtain ⟨t56, hq⟩ := hq
  refine bw_putR hx hb ht in_Br y_Br yk_Br nm_Br hown hK hW rfl t56 (by decide) rfl 3 (by decide) rfl (ht _ m_62) (fun _ h => h) (Or.inr ⟨rfl, hnm, rfl⟩) (bw_nr _ _) (bw_fr _ _) d_Br_init_45 (fun H locs hW => ?_)
  refine bw_aload_n hx hb d_Br_init_48 rfl (lv_at hl 0 rfl) ?_
  obtain ⟨h58, h59, hq⟩ := hq
  refine bw_mk (ci := 7) hx hb ht in_Al y_Al yk_Al hown (ht _ m_33) (ht _ m_34) (ht _ m_4) hK hW hA (by decide) (by rfl) df_Al (Nat.le_trans (Nat.add_le_add_left h58 _) hc) (Nat.le_trans (Nat.add_le_add_left h59 _) hs) d_Br_init_49 (fun q57 H n60 hW => ?_)
  obtain ⟨w61, ew61⟩ : ∃ z : Wd, z = bw_new (sR w50 x0 3 (some q43)) q57 7 0 := ⟨_, rfl⟩
  rw [← ew61] at hW
  have hq := hq q57 n60 w61 ew61
  have hc := bw_bud hc h58
  have hs := bw_bud hs h59
  have t56 : bw_is w61 x0 5 := by rw [ew61]; exact bw_is_new n60 t56
  have t62 : bw_is w61 q57 7 := by rw [ew61]; exact bw_is_self _ _ _ _
  refine lv_dup hx hb d_Br_init_52 (bw_cat _) ?_
  refine bw_callI (As := []) (rest := [va_rf (some q57), va_rf (some x0)]) C hW ci_Al_init rfl m_35 m_36 d_Br_init_53 rfl rfl hl.1 (by simp [bw_cat, cat_i, cat_j]) ⟨Nat.le_of_ble_eq_true rfl, Nat.le_of_ble_eq_true rfl⟩ ⟨Nat.le_trans (Nat.add_le_add_left (Nat.zero_le _) _) hc, Nat.le_trans (Nat.add_le_add_left (Nat.zero_le _) _) hs⟩ (c_Al_init hl0 _ _ hq) (fun v63 w64 H locs hv hW => ?_)
  obtain ⟨rfl, hq⟩ := hv
  have hc := bw_bud0 hc
  have hs := bw_bud0 hs
  refine W.eq (g2 := F0 m 56 ls [va_rf (some q57), va_rf (some x0)]) rfl ?_
  obtain ⟨t70, hq⟩ := hq
  refine bw_putR hx hb ht in_Br y_Br yk_Br nm_Br hown hK hW rfl t70 (by decide) rfl 4 (by decide) rfl (ht _ m_63) (fun _ h => h) (Or.inr ⟨rfl, hnm, rfl⟩) (bw_nr _ _) (bw_fr _ _) d_Br_init_56 (fun H locs hW => ?_)
  refine bw_aload_n hx hb d_Br_init_59 rfl (lv_at hl 0 rfl) ?_
  obtain ⟨h72, h73, hq⟩ := hq
  refine bw_mk (ci := 7) hx hb ht in_Al y_Al yk_Al hown (ht _ m_33) (ht _ m_34) (ht _ m_4) hK hW hA (by decide) (by rfl) df_Al (Nat.le_trans (Nat.add_le_add_left h72 _) hc) (Nat.le_trans (Nat.add_le_add_left h73 _) hs) d_Br_init_60 (fun q71 H n74 hW => ?_)
  obtain ⟨w75, ew75⟩ : ∃ z : Wd, z = bw_new (sR w64 x0 4 (some q57)) q71 7 0 := ⟨_, rfl⟩
  rw [← ew75] at hW
  have hq := hq q71 n74 w75 ew75
  have hc := bw_bud hc h72
  have hs := bw_bud hs h73
  have t70 : bw_is w75 x0 5 := by rw [ew75]; exact bw_is_new n74 t70
  have t76 : bw_is w75 q71 7 := by rw [ew75]; exact bw_is_self _ _ _ _
  refine lv_dup hx hb d_Br_init_63 (bw_cat _) ?_
  refine bw_callI (As := []) (rest := [va_rf (some q71), va_rf (some x0)]) C hW ci_Al_init rfl m_35 m_36 d_Br_init_64 rfl rfl hl.1 (by simp [bw_cat, cat_i, cat_j]) ⟨Nat.le_of_ble_eq_true rfl, Nat.le_of_ble_eq_true rfl⟩ ⟨Nat.le_trans (Nat.add_le_add_left (Nat.zero_le _) _) hc, Nat.le_trans (Nat.add_le_add_left (Nat.zero_le _) _) hs⟩ (c_Al_init hl0 _ _ hq) (fun v77 w78 H locs hv hW => ?_)
  obtain ⟨rfl, hq⟩ := hv
  have hc := bw_bud0 hc
  have hs := bw_bud0 hs
  refine W.eq (g2 := F0 m 67 ls [va_rf (some q71), va_rf (some x0)]) rfl ?_
  obtain ⟨t84, hq⟩ := hq
  refine bw_putR hx hb ht in_Br y_Br yk_Br nm_Br hown hK hW rfl t84 (by decide) rfl 5 (by decide) rfl (ht _ m_64) (fun _ h => h) (Or.inr ⟨rfl, hnm, rfl⟩) (bw_nr _ _) (bw_fr _ _) d_Br_init_67 (fun H locs hW => ?_)
  refine bw_aload_n hx hb d_Br_init_70 rfl (lv_at hl 0 rfl) ?_
  refine lv_bipush (v := 100) hx hb d_Br_init_71 (by decide) ?_
  refine bw_putI hx hb ht in_Br y_Br yk_Br nm_Br hown hK hW rfl t84 (by decide) rfl 6 (by decide) rfl (ht _ m_65) (fun _ h => h) (Or.inl rfl) rfl rfl d_Br_init_73 (fun H locs hW => ?_)
  refine bw_aload_n hx hb d_Br_init_76 rfl (lv_at hl 0 rfl) ?_
  refine lv_iconst (v := 0) hx hb d_Br_init_77 (by decide) ?_
  refine bw_putI hx hb ht in_Br y_Br yk_Br nm_Br hown hK hW rfl t84 (by decide) rfl 7 (by decide) rfl (ht _ m_66) (fun _ h => h) (Or.inl rfl) rfl rfl d_Br_init_78 (fun H locs hW => ?_)
  refine bw_aload_n hx hb d_Br_init_81 rfl (lv_at hl 0 rfl) ?_
  refine lv_iconst (v := 0) hx hb d_Br_init_82 (by decide) ?_
  refine bw_putI hx hb ht in_Br y_Br yk_Br nm_Br hown hK hW rfl t84 (by decide) rfl 8 (by decide) rfl (ht _ m_67) (fun _ h => h) (Or.inl rfl) rfl rfl d_Br_init_83 (fun H locs hW => ?_)
  exact bw_vret C hW ⟨rfl, hq⟩ d_Br_init_86 (Nat.le_trans (Nat.le_add_right _ _) hc) (Nat.le_trans (Nat.le_add_right _ _) hs)
theorem ci_Br_init : CI n_Br_init b_Br_init 1 none 0 := ⟨m_29, m_1, by decide, by decide, by decide +kernel⟩
theorem c_Br_init {l : Launch} {D : va_G} {AC : Nat → ClassId} {e0 mi : Nat} {Q : Wd → Prop} (hl0 : l.stackTraces = false) (x0 : Nat) (w : Wd) (nc ns : Nat) (hq : wp_Br_init e0 mi x0 w nc ns Q) : Ct l D AC e0 mi n_Br_init (wy n_Br_init b_Br_init 1 none) 4 100 [va_rf (some x0)] w nc ns (fun v w9 => v = none ∧ Q w9) (fun _ _ => False) :=
  Ct.of hl0 (by decide) (by simp [lg_sl, bw_cat, cat_i, cat_j]) (fun p e s m args below meth c A ls C hW hl => k_Br_init_0 C x0 w nc ns hq s.heap [] 0 0 ls hW (by simpa [lv_args, bw_cat, cat_i, cat_j] using hl) (Nat.le_of_eq (Nat.zero_add _)) (Nat.le_of_eq (Nat.zero_add _)))
