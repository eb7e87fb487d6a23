/-! printed by wip/gen/walk.py out of the bytecode: It_rear It_forgetWay Wy_init Wy_nextNumber Wy_leadTo Wy_isDueBefore Ed_init Sc_init It_init It_startOn Bt_init Bt_wayNumbered Bt_wayOf Bt_itemAtEnd Bt_wayInUse Bt_takeOn Bt_letGo It_leave It_goOn -/
def wp_It_rear (e0 mi : Nat) (x0 : Nat) (w : Wd) (Q : Int32 → Wd → Prop) : Prop :=
  bw_is w x0 2 ∧ (Q ((wI w x0 7) - (wI w x0 1)) w)
set_option maxHeartbeats 4000000 in
set_option maxRecDepth 100000 in
theorem k_It_rear_0 {p : Program} {l : Launch} {e : Env} {s : State} {m : MethodId} {args : Array Value} {below : List Frame} {meth : Method} {c : Code} {D : va_G} {AC : Nat → ClassId} {e0 mi : Nat} {A : Nat → Prop} {mc ms : Nat} {Q : Int32 → Wd → Prop} (C : Cx p l s m args meth c D AC e0 mi A n_It_rear b_It_rear 1 (some .int)) (x0 : Nat) (w : Wd) (hq : wp_It_rear e0 mi x0 w Q) : ∀ (H : Heap) (locs : List Loc) (cells slots : Nat) (ls : Array Slot), HW D cls8 FTc AC A s.heap H locs w → lv_has ls 1 [(0, va_rf (some x0))] → cells ≤ mc → slots ≤ ms → W p l e { frames := 0, cells := mc, slots := ms, locals := 0 } s m args below meth c H locs cells slots (vx_MQ below (QQ D AC A (fun v w9 => ∃ r9 : Int32, v = some (.int r9) ∧ Q r9 w9)) (XX D AC A (fun _ _ => False)) args s mc ms A) (F0 m 0 ls []) := by
  obtain ⟨hl0, hx, hb, hr, ht, hown, hlocks, hnm, hml, hex, hK, hA, hZ, hV⟩ := id C
  intro H locs cells slots ls hW hl hc hs
  unfold wp_It_rear at hq
  refine bw_aload_n hx hb d_It_rear_0 rfl (lv_at hl 0 rfl) ?_
  obtain ⟨t1, hq⟩ := hq
  refine bw_getI hx hb ht in_It hown hK hW rfl t1 (by decide) rfl 7 (by decide) rfl (ht _ m_458) (fun _ h => h) d_It_rear_1 ?_
  refine bw_aload_n hx hb d_It_rear_4 rfl (lv_at hl 0 rfl) ?_
  refine bw_getI hx hb ht in_It hown hK hW rfl t1 (by decide) rfl 1 (by decide) rfl (ht _ m_445) (fun _ h => h) d_It_rear_5 ?_
  refine lv_isub hx hb d_It_rear_8 ?_
  exact bw_iret C hW ⟨_, rfl, hq⟩ d_It_rear_9 hc hs
theorem ci_It_rear : CI n_It_rear b_It_rear 1 (some .int) 0 := ⟨m_435, m_21, by decide, by decide, by decide +kernel⟩
theorem c_It_rear {l : Launch} {D : va_G} {AC : Nat → ClassId} {e0 mi : Nat} {Q : Int32 → Wd → Prop} (hl0 : l.stackTraces = false) (x0 : Nat) (w : Wd) (hq : wp_It_rear e0 mi x0 w Q) : Ct l D AC e0 mi n_It_rear (wy n_It_rear b_It_rear 1 (some .int)) 0 0 [va_rf (some x0)] w 0 0 (fun v w9 => ∃ r9 : Int32, v = some (.int r9) ∧ Q r9 w9) (fun _ _ => False) :=
  Ct.of hl0 (by decide) (by simp [lg_sl, bw_cat, cat_i, cat_j]) (fun p e s m args below meth c A ls C hW hl => k_It_rear_0 C x0 w hq s.heap [] 0 0 ls hW (by simpa [lv_args, bw_cat, cat_i, cat_j] using hl) (Nat.le_refl _) (Nat.le_refl _))
def wp_It_forgetWay (e0 mi : Nat) (x0 : Nat) (w : Wd) (Q : Wd → Prop) : Prop :=
  bw_is w x0 2 ∧ (Q (sI (sI w x0 9 (0 : Int32)) x0 10 (0 : Int32)))
set_option maxHeartbeats 4000000 in
set_option maxRecDepth 100000 in
theorem k_It_forgetWay_0 {p : Program} {l : Launch} {e : Env} {s : State} {m : MethodId} {args : Array Value} {below : List Frame} {meth : Method} {c : Code} {D : va_G} {AC : Nat → ClassId} {e0 mi : Nat} {A : Nat → Prop} {mc ms : Nat} {Q : Wd → Prop} (C : Cx p l s m args meth c D AC e0 mi A n_It_forgetWay b_It_forgetWay 1 none) (x0 : Nat) (w : Wd) (hq : wp_It_forgetWay e0 mi x0 w Q) : ∀ (H : Heap) (locs : List Loc) (cells slots : Nat) (ls : Array Slot), HW D cls8 FTc AC A s.heap H locs w → lv_has ls 1 [(0, va_rf (some x0))] → cells ≤ mc → slots ≤ ms → W p l e { frames := 0, cells := mc, slots := ms, locals := 0 } s m args below meth c H locs cells slots (vx_MQ below (QQ D AC A (fun v w9 => v = none ∧ Q w9)) (XX D AC A (fun _ _ => False)) args s mc ms A) (F0 m 0 ls []) := by
  obtain ⟨hl0, hx, hb, hr, ht, hown, hlocks, hnm, hml, hex, hK, hA, hZ, hV⟩ := id C
  intro H locs cells slots ls hW hl hc hs
  unfold wp_It_forgetWay at hq
  refine bw_aload_n hx hb d_It_forgetWay_0 rfl (lv_at hl 0 rfl) ?_
  refine lv_iconst (v := 0) hx hb d_It_forgetWay_1 (by decide) ?_
  obtain ⟨t1, hq⟩ := hq
  refine bw_putI hx hb ht in_It y_It yk_It nm_It hown hK hW rfl t1 (by decide) rfl 9 (by decide) rfl (ht _ m_463) (fun _ h => h) (Or.inl rfl) rfl rfl d_It_forgetWay_2 (fun H locs hW => ?_)
  refine bw_aload_n hx hb d_It_forgetWay_5 rfl (lv_at hl 0 rfl) ?_
  refine lv_iconst (v := 0) hx hb d_It_forgetWay_6 (by decide) ?_
  refine bw_putI hx hb ht in_It y_It yk_It nm_It hown hK hW rfl t1 (by decide) rfl 10 (by decide) rfl (ht _ m_466) (fun _ h => h) (Or.inl rfl) rfl rfl d_It_forgetWay_7 (fun H locs hW => ?_)
  exact bw_vret C hW ⟨rfl, hq⟩ d_It_forgetWay_10 hc hs
theorem ci_It_forgetWay : CI n_It_forgetWay b_It_forgetWay 1 none 0 := ⟨m_502, m_21, by decide, by decide, by decide +kernel⟩
theorem sel_It_forgetWay : Cond.selects "BeltRows$Item" n_It_forgetWay n_It_forgetWay ∈ TBL := List.mem_filter.mpr ⟨List.mem_append_left _ (List.mem_map.mpr ⟨(n_It_forgetWay, 11), by decide +kernel, rfl⟩), rfl⟩
theorem c_It_forgetWay {l : Launch} {D : va_G} {AC : Nat → ClassId} {e0 mi : Nat} {Q : Wd → Prop} (hl0 : l.stackTraces = false) (x0 : Nat) (w : Wd) (hq : wp_It_forgetWay e0 mi x0 w Q) : Ct l D AC e0 mi n_It_forgetWay (wy n_It_forgetWay b_It_forgetWay 1 none) 0 0 [va_rf (some x0)] w 0 0 (fun v w9 => v = none ∧ Q w9) (fun _ _ => False) :=
  Ct.of hl0 (by decide) (by simp [lg_sl, bw_cat, cat_i, cat_j]) (fun p e s m args below meth c A ls C hW hl => k_It_forgetWay_0 C x0 w hq s.heap [] 0 0 ls hW (by simpa [lv_args, bw_cat, cat_i, cat_j] using hl) (Nat.le_refl _) (Nat.le_refl _))
def wp_Wy_init (e0 mi : Nat) (x0 : Nat) (w : Wd) (Q : Wd → Prop) : Prop :=
  bw_is w x0 4 ∧ (Q (sI (sI (sR w x0 0 none) x0 1 (1 : Int32)) x0 2 (0 : Int32)))
set_option maxHeartbeats 4000000 in
set_option maxRecDepth 100000 in
theorem k_Wy_init_0 {p : Program} {l : Launch} {e : Env} {s : State} {m : MethodId} {args : Array Value} {below : List Frame} {meth : Method} {c : Code} {D : va_G} {AC : Nat → ClassId} {e0 mi : Nat} {A : Nat → Prop} {mc ms : Nat} {Q : Wd → Prop} (C : Cx p l s m args meth c D AC e0 mi A n_Wy_init b_Wy_init 1 none) (x0 : Nat) (w : Wd) (hq : wp_Wy_init e0 mi x0 w Q) : ∀ (H : Heap) (locs : List Loc) (cells slots : Nat) (ls : Array Slot), HW D cls8 FTc AC A s.heap H locs w → lv_has ls 1 [(0, va_rf (some x0))] → cells ≤ mc → slots ≤ ms → W p l e { frames := 1, cells := mc, slots := ms, locals := 40 } s m args below meth c H locs cells slots (vx_MQ below (QQ D AC A (fun v w9 => v = none ∧ Q w9)) (XX D AC A (fun _ _ => False)) args s mc ms A) (F0 m 0 ls []) := by
  obtain ⟨hl0, hx, hb, hr, ht, hown, hlocks, hnm, hml, hex, hK, hA, hZ, hV⟩ := id C
  intro H locs cells slots ls hW hl hc hs
  unfold wp_Wy_init at hq
  refine bw_aload_n hx hb d_Wy_init_0 rfl (lv_at hl 0 rfl) ?_
  refine W.objInit hx hb hown (ht _ m_222) (ht _ m_31) (ht _ m_32) rfl (by rw [hml]; exact hl.1) rfl d_Wy_init_1 (Nat.le_of_ble_eq_true rfl) (Nat.le_of_ble_eq_true rfl) ?_
  refine W.eq (g2 := F0 m 4 ls []) rfl ?_
  refine bw_aload_n hx hb d_Wy_init_4 rfl (lv_at hl 0 rfl) ?_
  refine bw_null hx hb d_Wy_init_5 ?_
  obtain ⟨t1, hq⟩ := hq
  refine bw_putR hx hb ht in_Wy y_Wy yk_Wy nm_Wy hown hK hW rfl t1 (by decide) rfl 0 (by decide) rfl (ht _ m_223) (fun _ h => h) (Or.inl rfl) (bw_nr _ _) (bw_fr _ _) d_Wy_init_6 (fun H locs hW => ?_)
  refine bw_aload_n hx hb d_Wy_init_9 rfl (lv_at hl 0 rfl) ?_
  refine lv_iconst (v := 1) hx hb d_Wy_init_10 (by decide) ?_
  refine bw_putI hx hb ht in_Wy y_Wy yk_Wy nm_Wy hown hK hW rfl t1 (by decide) rfl 1 (by decide) rfl (ht _ m_226) (fun _ h => h) (Or.inl rfl) rfl rfl d_Wy_init_11 (fun H locs hW => ?_)
  refine bw_aload_n hx hb d_Wy_init_14 rfl (lv_at hl 0 rfl) ?_
  refine lv_iconst (v := 0) hx hb d_Wy_init_15 (by decide) ?_
  refine bw_putI hx hb ht in_Wy y_Wy yk_Wy nm_Wy hown hK hW rfl t1 (by decide) rfl 2 (by decide) rfl (ht _ m_227) (fun _ h => h) (Or.inl rfl) rfl rfl d_Wy_init_16 (fun H locs hW => ?_)
  exact bw_vret C hW ⟨rfl, hq⟩ d_Wy_init_19 hc hs
theorem ci_Wy_init : CI n_Wy_init b_Wy_init 1 none 0 := ⟨m_221, m_12, by decide, by decide, by decide +kernel⟩
theorem c_Wy_init {l : Launch} {D : va_G} {AC : Nat → ClassId} {e0 mi : Nat} {Q : Wd → Prop} (hl0 : l.stackTraces = false) (x0 : Nat) (w : Wd) (hq : wp_Wy_init e0 mi x0 w Q) : Ct l D AC e0 mi n_Wy_init (wy n_Wy_init b_Wy_init 1 none) 1 40 [va_rf (some x0)] w 0 0 (fun v w9 => v = none ∧ Q w9) (fun _ _ => False) :=
  Ct.of hl0 (by decide) (by simp [lg_sl, bw_cat, cat_i, cat_j]) (fun p e s m args below meth c A ls C hW hl => k_Wy_init_0 C x0 w hq s.heap [] 0 0 ls hW (by simpa [lv_args, bw_cat, cat_i, cat_j] using hl) (Nat.le_refl _) (Nat.le_refl _))
def wb_Wy_nextNumber_18 (e0 mi : Nat) (Q : Int32 → Wd → Prop) (x0 : Nat) (z0 : Int32) (w : Wd) : Prop :=
  Q z0 w
set_option maxHeartbeats 4000000 in
set_option maxRecDepth 100000 in
theorem k_Wy_nextNumber_18 {p : Program} {l : Launch} {e : Env} {s : State} {m : MethodId} {args : Array Value} {below : List Frame} {meth : Method} {c : Code} {D : va_G} {AC : Nat → ClassId} {e0 mi : Nat} {A : Nat → Prop} {mc ms : Nat} {Q : Int32 → Wd → Prop} (C : Cx p l s m args meth c D AC e0 mi A n_Wy_nextNumber b_Wy_nextNumber 1 (some .int)) (x0 : Nat) (z0 : Int32) (w : Wd) (hq : wb_Wy_nextNumber_18 e0 mi Q x0 z0 w) : ∀ (H : Heap) (locs : List Loc) (cells slots : Nat) (ls : Array Slot), HW D cls8 FTc AC A s.heap H locs w → lv_has ls 1 [(0, va_rf (some x0))] → cells ≤ mc → slots ≤ ms → W p l e { frames := 0, cells := mc, slots := ms, locals := 0 } s m args below meth c H locs cells slots (vx_MQ below (QQ D AC A (fun v w9 => ∃ r9 : Int32, v = some (.int r9) ∧ Q r9 w9)) (XX D AC A (fun _ _ => False)) args s mc ms A) (F0 m 18 ls [.int z0]) := by
  obtain ⟨hl0, hx, hb, hr, ht, hown, hlocks, hnm, hml, hex, hK, hA, hZ, hV⟩ := id C
  intro H locs cells slots ls hW hl hc hs
  unfold wb_Wy_nextNumber_18 at hq
  exact bw_iret C hW ⟨_, rfl, hq⟩ d_Wy_nextNumber_18 hc hs
def wp_Wy_nextNumber (e0 mi : Nat) (x0 : Nat) (w : Wd) (Q : Int32 → Wd → Prop) : Prop :=
  bw_is w x0 4 ∧ ((¬ (wR w x0 0) = none → (∃ a3 : Nat, (wR w x0 0) = some a3 ∧ (bw_is w a3 0 ∧ (wb_Wy_nextNumber_18 e0 mi Q x0 (wI w a3 0) w)))) ∧ ((wR w x0 0) = none → (wb_Wy_nextNumber_18 e0 mi Q x0 (-1 : Int32) w)))
set_option maxHeartbeats 4000000 in
set_option maxRecDepth 100000 in
theorem k_Wy_nextNumber_0 {p : Program} {l : Launch} {e : Env} {s : State} {m : MethodId} {args : Array Value} {below : List Frame} {meth : Method} {c : Code} {D : va_G} {AC : Nat → ClassId} {e0 mi : Nat} {A : Nat → Prop} {mc ms : Nat} {Q : Int32 → Wd → Prop} (C : Cx p l s m args meth c D AC e0 mi A n_Wy_nextNumber b_Wy_nextNumber 1 (some .int)) (x0 : Nat) (w : Wd) (hq : wp_Wy_nextNumber e0 mi x0 w Q) : ∀ (H : Heap) (locs : List Loc) (cells slots : Nat) (ls : Array Slot), HW D cls8 FTc AC A s.heap H locs w → lv_has ls 1 [(0, va_rf (some x0))] → cells ≤ mc → slots ≤ ms → W p l e { frames := 0, cells := mc, slots := ms, locals := 0 } s m args below meth c H locs cells slots (vx_MQ below (QQ D AC A (fun v w9 => ∃ r9 : Int32, v = some (.int r9) ∧ Q r9 w9)) (XX D AC A (fun _ _ => False)) args s mc ms A) (F0 m 0 ls []) := by
  obtain ⟨hl0, hx, hb, hr, ht, hown, hlocks, hnm, hml, hex, hK, hA, hZ, hV⟩ := id C
  intro H locs cells slots ls hW hl hc hs
  unfold wp_Wy_nextNumber at hq
  refine bw_aload_n hx hb d_Wy_nextNumber_0 rfl (lv_at hl 0 rfl) ?_
  obtain ⟨t1, hq⟩ := hq
  refine bw_getR hx hb ht in_Wy hown hK hW rfl t1 (by decide) rfl 0 (by decide) rfl (ht _ m_223) (fun _ h => h) d_Wy_nextNumber_1 ?_
  refine bw_ifnonnull (tgt := 11) hx hb d_Wy_nextNumber_4 (by decide) (fun c2 => ?_) (fun c2 => ?_)
  · have hq := hq.1 c2
    refine bw_aload_n hx hb d_Wy_nextNumber_11 rfl (lv_at hl 0 rfl) ?_
    refine bw_getR hx hb ht in_Wy hown hK hW rfl t1 (by decide) rfl 0 (by decide) rfl (ht _ m_223) (fun _ h => h) d_Wy_nextNumber_12 ?_
    obtain ⟨a3, ea3, hq⟩ := hq
    obtain ⟨t4, hq⟩ := hq
    refine bw_getI hx hb ht in_Bt hown hK hW ea3 t4 (by decide) rfl 0 (by decide) rfl (ht _ m_237) (fun _ h => h) d_Wy_nextNumber_15 ?_
    exact k_Wy_nextNumber_18 C  _ _ _ hq _ _ _ _ _ hW (lv_sub hl [0] rfl) hc hs
  · have hq := hq.2 c2
    refine lv_iconst (v := (-1)) hx hb d_Wy_nextNumber_7 (by decide) ?_
    refine lv_goto (tgt := 18) hx hb d_Wy_nextNumber_8 (by decide) ?_
    exact k_Wy_nextNumber_18 C  _ _ _ hq _ _ _ _ _ hW (lv_sub hl [0] rfl) hc hs
theorem ci_Wy_nextNumber : CI n_Wy_nextNumber b_Wy_nextNumber 1 (some .int) 0 := ⟨m_704, m_12, by decide, by decide, by decide +kernel⟩
theorem c_Wy_nextNumber {l : Launch} {D : va_G} {AC : Nat → ClassId} {e0 mi : Nat} {Q : Int32 → Wd → Prop} (hl0 : l.stackTraces = false) (x0 : Nat) (w : Wd) (hq : wp_Wy_nextNumber e0 mi x0 w Q) : Ct l D AC e0 mi n_Wy_nextNumber (wy n_Wy_nextNumber b_Wy_nextNumber 1 (some .int)) 0 0 [va_rf (some x0)] w 0 0 (fun v w9 => ∃ r9 : Int32, v = some (.int r9) ∧ Q r9 w9) (fun _ _ => False) :=
  Ct.of hl0 (by decide) (by simp [lg_sl, bw_cat, cat_i, cat_j]) (fun p e s m args below meth c A ls C hW hl => k_Wy_nextNumber_0 C x0 w hq s.heap [] 0 0 ls hW (by simpa [lv_args, bw_cat, cat_i, cat_j] using hl) (Nat.le_refl _) (Nat.le_refl _))
def wp_Wy_leadTo (e0 mi : Nat) (x0 : Nat) (x1 : Option Nat) (x2 : Int32) (w : Wd) (Q : Wd → Prop) : Prop :=
  bw_is w x0 4 ∧ (Q (sI (sI (sR w x0 0 x1) x0 1 x2) x0 2 (0 : Int32)))
set_option maxHeartbeats 4000000 in
set_option maxRecDepth 100000 in
theorem k_Wy_leadTo_0 {p : Program} {l : Launch} {e : Env} {s : State} {m : MethodId} {args : Array Value} {below : List Frame} {meth : Method} {c : Code} {D : va_G} {AC : Nat → ClassId} {e0 mi : Nat} {A : Nat → Prop} {mc ms : Nat} {Q : Wd → Prop} (C : Cx p l s m args meth c D AC e0 mi A n_Wy_leadTo b_Wy_leadTo 3 none) (x0 : Nat) (x1 : Option Nat) (x2 : Int32) (w : Wd) (hq : wp_Wy_leadTo e0 mi x0 x1 x2 w Q) : ∀ (H : Heap) (locs : List Loc) (cells slots : Nat) (ls : Array Slot), HW D cls8 FTc AC A s.heap H locs w → lv_has ls 3 [(0, va_rf (some x0)), (1, va_rf x1), (2, .int x2)] → cells ≤ mc → slots ≤ ms → W p l e { frames := 0, cells := mc, slots := ms, locals := 0 } s m args below meth c H locs cells slots (vx_MQ below (QQ D AC A (fun v w9 => v = none ∧ Q w9)) (XX D AC A (fun _ _ => False)) args s mc ms A) (F0 m 0 ls []) := by
  obtain ⟨hl0, hx, hb, hr, ht, hown, hlocks, hnm, hml, hex, hK, hA, hZ, hV⟩ := id C
  intro H locs cells slots ls hW hl hc hs
  unfold wp_Wy_leadTo at hq
  refine bw_aload_n hx hb d_Wy_leadTo_0 rfl (lv_at hl 0 rfl) ?_
  refine bw_aload_n hx hb d_Wy_leadTo_1 rfl (lv_at hl 1 rfl) ?_
  obtain ⟨t1, hq⟩ := hq
  refine bw_putR hx hb ht in_Wy y_Wy yk_Wy nm_Wy hown hK hW rfl t1 (by decide) rfl 0 (by decide) rfl (ht _ m_223) (fun _ h => h) (Or.inl rfl) (bw_nr _ _) (bw_fr _ _) d_Wy_leadTo_2 (fun H locs hW => ?_)
  refine bw_aload_n hx hb d_Wy_leadTo_5 rfl (lv_at hl 0 rfl) ?_
  refine lv_iload_n hx hb d_Wy_leadTo_6 rfl (lv_at hl 2 rfl) ?_
  refine bw_putI hx hb ht in_Wy y_Wy yk_Wy nm_Wy hown hK hW rfl t1 (by decide) rfl 1 (by decide) rfl (ht _ m_226) (fun _ h => h) (Or.inl rfl) rfl rfl d_Wy_leadTo_7 (fun H locs hW => ?_)
  refine bw_aload_n hx hb d_Wy_leadTo_10 rfl (lv_at hl 0 rfl) ?_
  refine lv_iconst (v := 0) hx hb d_Wy_leadTo_11 (by decide) ?_
  refine bw_putI hx hb ht in_Wy y_Wy yk_Wy nm_Wy hown hK hW rfl t1 (by decide) rfl 2 (by decide) rfl (ht _ m_227) (fun _ h => h) (Or.inl rfl) rfl rfl d_Wy_leadTo_12 (fun H locs hW => ?_)
  exact bw_vret C hW ⟨rfl, hq⟩ d_Wy_leadTo_15 hc hs
theorem ci_Wy_leadTo : CI n_Wy_leadTo b_Wy_leadTo 3 none 2 := ⟨m_370, m_12, by decide, by decide, by decide +kernel⟩
theorem c_Wy_leadTo {l : Launch} {D : va_G} {AC : Nat → ClassId} {e0 mi : Nat} {Q : Wd → Prop} (hl0 : l.stackTraces = false) (x0 : Nat) (x1 : Option Nat) (x2 : Int32) (w : Wd) (hq : wp_Wy_leadTo e0 mi x0 x1 x2 w Q) : Ct l D AC e0 mi n_Wy_leadTo (wy n_Wy_leadTo b_Wy_leadTo 3 none) 0 0 [va_rf (some x0), va_rf x1, .int x2] w 0 0 (fun v w9 => v = none ∧ Q w9) (fun _ _ => False) :=
  Ct.of hl0 (by decide) (by simp [lg_sl, bw_cat, cat_i, cat_j]) (fun p e s m args below meth c A ls C hW hl => k_Wy_leadTo_0 C x0 x1 x2 w hq s.heap [] 0 0 ls hW (by simpa [lv_args, bw_cat, cat_i, cat_j] using hl) (Nat.le_refl _) (Nat.le_refl _))
def wb_Wy_isDueBefore_26 (e0 mi : Nat) (Q : Int32 → Wd → Prop) (x0 : Nat) (x1 : Option Nat) (z0 : Int32) (w : Wd) : Prop :=
  bw_b z0 ∧ Q z0 w
set_option maxHeartbeats 4000000 in
set_option maxRecDepth 100000 in
theorem k_Wy_isDueBefore_26 {p : Program} {l : Launch} {e : Env} {s : State} {m : MethodId} {args : Array Value} {below : List Frame} {meth : Method} {c : Code} {D : va_G} {AC : Nat → ClassId} {e0 mi : Nat} {A : Nat → Prop} {mc ms : Nat} {Q : Int32 → Wd → Prop} (C : Cx p l s m args meth c D AC e0 mi A n_Wy_isDueBefore b_Wy_isDueBefore 2 (some .boolean)) (x0 : Nat) (x1 : Option Nat) (z0 : Int32) (w : Wd) (hq : wb_Wy_isDueBefore_26 e0 mi Q x0 x1 z0 w) : ∀ (H : Heap) (locs : List Loc) (cells slots : Nat) (ls : Array Slot), HW D cls8 FTc AC A s.heap H locs w → lv_has ls 2 [(0, va_rf (some x0)), (1, va_rf x1)] → cells ≤ mc → slots ≤ ms → W p l e { frames := 0, cells := mc, slots := ms, locals := 0 } s m args below meth c H locs cells slots (vx_MQ below (QQ D AC A (fun v w9 => ∃ r9 : Int32, v = some (.int r9) ∧ Q r9 w9)) (XX D AC A (fun _ _ => False)) args s mc ms A) (F0 m 26 ls [.int z0]) := by
  obtain ⟨hl0, hx, hb, hr, ht, hown, hlocks, hnm, hml, hex, hK, hA, hZ, hV⟩ := id C
  intro H locs cells slots ls hW hl hc hs
  unfold wb_Wy_isDueBefore_26 at hq
  obtain ⟨h1, hq⟩ := hq
  exact bw_zret C hW (bw_bn h1) ⟨_, rfl, hq⟩ d_Wy_isDueBefore_26 hc hs
def wp_Wy_isDueBefore (e0 mi : Nat) (x0 : Nat) (x1 : Option Nat) (w : Wd) (Q : Int32 → Wd → Prop) : Prop :=
  bw_is w x0 4 ∧ (∃ a2 : Nat, x1 = some a2 ∧ (bw_is w a2 4 ∧ ((((wI w a2 2) * (wI w x0 1)) ≤ ((wI w x0 2) * (wI w a2 1)) → (wb_Wy_isDueBefore_26 e0 mi Q x0 x1 (0 : Int32) w)) ∧ (¬ ((wI w a2 2) * (wI w x0 1)) ≤ ((wI w x0 2) * (wI w a2 1)) → (wb_Wy_isDueBefore_26 e0 mi Q x0 x1 (1 : Int32) w)))))
set_option maxHeartbeats 4000000 in
set_option maxRecDepth 100000 in
theorem k_Wy_isDueBefore_0 {p : Program} {l : Launch} {e : Env} {s : State} {m : MethodId} {args : Array Value} {below : List Frame} {meth : Method} {c : Code} {D : va_G} {AC : Nat → ClassId} {e0 mi : Nat} {A : Nat → Prop} {mc ms : Nat} {Q : Int32 → Wd → Prop} (C : Cx p l s m args meth c D AC e0 mi A n_Wy_isDueBefore b_Wy_isDueBefore 2 (some .boolean)) (x0 : Nat) (x1 : Option Nat) (w : Wd) (hq : wp_Wy_isDueBefore e0 mi x0 x1 w Q) : ∀ (H : Heap) (locs : List Loc) (cells slots : Nat) (ls : Array Slot), HW D cls8 FTc AC A s.heap H locs w → lv_has ls 2 [(0, va_rf (some x0)), (1, va_rf x1)] → cells ≤ mc → slots ≤ ms → W p l e { frames := 0, cells := mc, slots := ms, locals := 0 } s m args below meth c H locs cells slots (vx_MQ below (QQ D AC A (fun v w9 => ∃ r9 : Int32, v = some (.int r9) ∧ Q r9 w9)) (XX D AC A (fun _ _ => False)) args s mc ms A) (F0 m 0 ls []) := by
  obtain ⟨hl0, hx, hb, hr, ht, hown, hlocks, hnm, hml, hex, hK, hA, hZ, hV⟩ := id C
  intro H locs cells slots ls hW hl hc hs
  unfold wp_Wy_isDueBefore at hq
  refine bw_aload_n hx hb d_Wy_isDueBefore_0 rfl (lv_at hl 0 rfl) ?_
  obtain ⟨t1, hq⟩ := hq
  refine bw_getI hx hb ht in_Wy hown hK hW rfl t1 (by decide) rfl 2 (by decide) rfl (ht _ m_227) (fun _ h => h) d_Wy_isDueBefore_1 ?_
  refine bw_aload_n hx hb d_Wy_isDueBefore_4 rfl (lv_at hl 1 rfl) ?_
  obtain ⟨a2, ea2, hq⟩ := hq
  obtain ⟨t3, hq⟩ := hq
  refine bw_getI hx hb ht in_Wy hown hK hW ea2 t3 (by decide) rfl 1 (by decide) rfl (ht _ m_226) (fun _ h => h) d_Wy_isDueBefore_5 ?_
  refine lv_imul hx hb d_Wy_isDueBefore_8 ?_
  refine bw_aload_n hx hb d_Wy_isDueBefore_9 rfl (lv_at hl 1 rfl) ?_
  refine bw_getI hx hb ht in_Wy hown hK hW ea2 t3 (by decide) rfl 2 (by decide) rfl (ht _ m_227) (fun _ h => h) d_Wy_isDueBefore_10 ?_
  refine bw_aload_n hx hb d_Wy_isDueBefore_13 rfl (lv_at hl 0 rfl) ?_
  refine bw_getI hx hb ht in_Wy hown hK hW rfl t1 (by decide) rfl 1 (by decide) rfl (ht _ m_226) (fun _ h => h) d_Wy_isDueBefore_14 ?_
  refine lv_imul hx hb d_Wy_isDueBefore_17 ?_
  refine lv_icmp_ge (tgt := 25) hx hb d_Wy_isDueBefore_18 (by decide) (fun c4 => ?_) (fun c4 => ?_)
  · have hq := hq.1 c4
    refine lv_iconst (v := 0) hx hb d_Wy_isDueBefore_25 (by decide) ?_
    exact k_Wy_isDueBefore_26 C  _ _ _ _ hq _ _ _ _ _ hW (lv_sub hl [0, 1] rfl) hc hs
  · have hq := hq.2 c4
    refine lv_iconst (v := 1) hx hb d_Wy_isDueBefore_21 (by decide) ?_
    refine lv_goto (tgt := 26) hx hb d_Wy_isDueBefore_22 (by decide) ?_
    exact k_Wy_isDueBefore_26 C  _ _ _ _ hq _ _ _ _ _ hW (lv_sub hl [0, 1] rfl) hc hs
theorem ci_Wy_isDueBefore : CI n_Wy_isDueBefore b_Wy_isDueBefore 2 (some .boolean) 1 := ⟨m_628, m_12, by decide, by decide, by decide +kernel⟩
theorem c_Wy_isDueBefore {l : Launch} {D : va_G} {AC : Nat → ClassId} {e0 mi : Nat} {Q : Int32 → Wd → Prop} (hl0 : l.stackTraces = false) (x0 : Nat) (x1 : Option Nat) (w : Wd) (hq : wp_Wy_isDueBefore e0 mi x0 x1 w Q) : Ct l D AC e0 mi n_Wy_isDueBefore (wy n_Wy_isDueBefore b_Wy_isDueBefore 2 (some .boolean)) 0 0 [va_rf (some x0), va_rf x1] w 0 0 (fun v w9 => ∃ r9 : Int32, v = some (.int r9) ∧ Q r9 w9) (fun _ _ => False) :=
  Ct.of hl0 (by decide) (by simp [lg_sl, bw_cat, cat_i, cat_j]) (fun p e s m args below meth c A ls C hW hl => k_Wy_isDueBefore_0 C x0 x1 w hq s.heap [] 0 0 ls hW (by simpa [lv_args, bw_cat, cat_i, cat_j] using hl) (Nat.le_refl _) (Nat.le_refl _))
def wp_Ed_init (e0 mi : Nat) (x0 : Nat) (x1 : Int32) (x2 : Int32) (x3 : Int32) (x4 : Int32) (w : Wd) (Q : Wd → Prop) : Prop :=
  bw_is w x0 1 ∧ (Q (sI (sI (sI (sI w x0 0 x1) x0 1 x2) x0 2 x3) x0 3 x4))
set_option maxHeartbeats 4000000 in
set_option maxRecDepth 100000 in
theorem k_Ed_init_0 {p : Program} {l : Launch} {e : Env} {s : State} {m : MethodId} {args : Array Value} {below : List Frame} {meth : Method} {c : Code} {D : va_G} {AC : Nat → ClassId} {e0 mi : Nat} {A : Nat → Prop} {mc ms : Nat} {Q : Wd → Prop} (C : Cx p l s m args meth c D AC e0 mi A n_Ed_init b_Ed_init 5 none) (x0 : Nat) (x1 : Int32) (x2 : Int32) (x3 : Int32) (x4 : Int32) (w : Wd) (hq : wp_Ed_init e0 mi x0 x1 x2 x3 x4 w Q) : ∀ (H : Heap) (locs : List Loc) (cells slots : Nat) (ls : Array Slot), HW D cls8 FTc AC A s.heap H locs w → lv_has ls 5 [(0, va_rf (some x0)), (1, .int x1), (2, .int x2), (3, .int x3), (4, .int x4)] → cells ≤ mc → slots ≤ ms → W p l e { frames := 1, cells := mc, slots := ms, locals := 40 } s m args below meth c H locs cells slots (vx_MQ below (QQ D AC A (fun v w9 => v = none ∧ Q w9)) (XX D AC A (fun _ _ => False)) args s mc ms A) (F0 m 0 ls []) := by
  obtain ⟨hl0, hx, hb, hr, ht, hown, hlocks, hnm, hml, hex, hK, hA, hZ, hV⟩ := id C
  intro H locs cells slots ls hW hl hc hs
  unfold wp_Ed_init at hq
  refine bw_aload_n hx hb d_Ed_init_0 rfl (lv_at hl 0 rfl) ?_
  refine W.objInit hx hb hown (ht _ m_593) (ht _ m_31) (ht _ m_32) rfl (by rw [hml]; exact hl.1) rfl d_Ed_init_1 (Nat.le_of_ble_eq_true rfl) (Nat.le_of_ble_eq_true rfl) ?_
  refine W.eq (g2 := F0 m 4 ls []) rfl ?_
  refine bw_aload_n hx hb d_Ed_init_4 rfl (lv_at hl 0 rfl) ?_
  refine lv_iload_n hx hb d_Ed_init_5 rfl (lv_at hl 1 rfl) ?_
  obtain ⟨t1, hq⟩ := hq
  refine bw_putI hx hb ht in_Ed y_Ed yk_Ed nm_Ed hown hK hW rfl t1 (by decide) rfl 0 (by decide) rfl (ht _ m_594) (fun _ h => h) (Or.inr ⟨rfl, hnm, rfl⟩) rfl rfl d_Ed_init_6 (fun H locs hW => ?_)
  refine bw_aload_n hx hb d_Ed_init_9 rfl (lv_at hl 0 rfl) ?_
  refine lv_iload_n hx hb d_Ed_init_10 rfl (lv_at hl 2 rfl) ?_
  refine bw_putI hx hb ht in_Ed y_Ed yk_Ed nm_Ed hown hK hW rfl t1 (by decide) rfl 1 (by decide) rfl (ht _ m_596) (fun _ h => h) (Or.inr ⟨rfl, hnm, rfl⟩) rfl rfl d_Ed_init_11 (fun H locs hW => ?_)
  refine bw_aload_n hx hb d_Ed_init_14 rfl (lv_at hl 0 rfl) ?_
  refine lv_iload_n hx hb d_Ed_init_15 rfl (lv_at hl 3 rfl) ?_
  refine bw_putI hx hb ht in_Ed y_Ed yk_Ed nm_Ed hown hK hW rfl t1 (by decide) rfl 2 (by decide) rfl (ht _ m_598) (fun _ h => h) (Or.inr ⟨rfl, hnm, rfl⟩) rfl rfl d_Ed_init_16 (fun H locs hW => ?_)
  refine bw_aload_n hx hb d_Ed_init_19 rfl (lv_at hl 0 rfl) ?_
  refine lv_iload hx hb d_Ed_init_20 (lv_at hl 4 rfl) ?_
  refine bw_putI hx hb ht in_Ed y_Ed yk_Ed nm_Ed hown hK hW rfl t1 (by decide) rfl 3 (by decide) rfl (ht _ m_600) (fun _ h => h) (Or.inr ⟨rfl, hnm, rfl⟩) rfl rfl d_Ed_init_22 (fun H locs hW => ?_)
  exact bw_vret C hW ⟨rfl, hq⟩ d_Ed_init_25 hc hs
theorem ci_Ed_init : CI n_Ed_init b_Ed_init 5 none 4 := ⟨m_592, m_23, by decide, by decide, by decide +kernel⟩
theorem c_Ed_init {l : Launch} {D : va_G} {AC : Nat → ClassId} {e0 mi : Nat} {Q : Wd → Prop} (hl0 : l.stackTraces = false) (x0 : Nat) (x1 : Int32) (x2 : Int32) (x3 : Int32) (x4 : Int32) (w : Wd) (hq : wp_Ed_init e0 mi x0 x1 x2 x3 x4 w Q) : Ct l D AC e0 mi n_Ed_init (wy n_Ed_init b_Ed_init 5 none) 1 40 [va_rf (some x0), .int x1, .int x2, .int x3, .int x4] w 0 0 (fun v w9 => v = none ∧ Q w9) (fun _ _ => False) :=
  Ct.of hl0 (by decide) (by simp [lg_sl, bw_cat, cat_i, cat_j]) (fun p e s m args below meth c A ls C hW hl => k_Ed_init_0 C x0 x1 x2 x3 x4 w hq s.heap [] 0 0 ls hW (by simpa [lv_args, bw_cat, cat_i, cat_j] using hl) (Nat.le_refl _) (Nat.le_refl _))
def wp_Sc_init (e0 mi : Nat) (x0 : Nat) (x1 : Int32) (x2 : Option Nat) (x3 : Int32) (x4 : Int32) (w : Wd) (Q : Wd → Prop) : Prop :=
  bw_is w x0 3 ∧ (Q (sI (sI (sR (sI w x0 0 x1) x0 1 x2) x0 2 x3) x0 3 x4))
set_option maxHeartbeats 4000000 in
set_option maxRecDepth 100000 in
theorem k_Sc_init_0 {p : Program} {l : Launch} {e : Env} {s : State} {m : MethodId} {args : Array Value} {below : List Frame} {meth : Method} {c : Code} {D : va_G} {AC : Nat → ClassId} {e0 mi : Nat} {A : Nat → Prop} {mc ms : Nat} {Q : Wd → Prop} (C : Cx p l s m args meth c D AC e0 mi A n_Sc_init b_Sc_init 5 none) (x0 : Nat) (x1 : Int32) (x2 : Option Nat) (x3 : Int32) (x4 : Int32) (w : Wd) (hq : wp_Sc_init e0 mi x0 x1 x2 x3 x4 w Q) : ∀ (H : Heap) (locs : List Loc) (cells slots : Nat) (ls : Array Slot), HW D cls8 FTc AC A s.heap H locs w → lv_has ls 5 [(0, va_rf (some x0)), (1, .int x1), (2, va_rf x2), (3, .int x3), (4, .int x4)] → cells ≤ mc → slots ≤ ms → W p l e { frames := 1, cells := mc, slots := ms, locals := 40 } s m args below meth c H locs cells slots (vx_MQ below (QQ D AC A (fun v w9 => v = none ∧ Q w9)) (XX D AC A (fun _ _ => False)) args s mc ms A) (F0 m 0 ls []) := by
  obtain ⟨hl0, hx, hb, hr, ht, hown, hlocks, hnm, hml, hex, hK, hA, hZ, hV⟩ := id C
  intro H locs cells slots ls hW hl hc hs
  unfold wp_Sc_init at hq
  refine bw_aload_n hx hb d_Sc_init_0 rfl (lv_at hl 0 rfl) ?_
  refine W.objInit hx hb hown (ht _ m_402) (ht _ m_31) (ht _ m_32) rfl (by rw [hml]; exact hl.1) rfl d_Sc_init_1 (Nat.le_of_ble_eq_true rfl) (Nat.le_of_ble_eq_true rfl) ?_
  refine W.eq (g2 := F0 m 4 ls []) rfl ?_
  refine bw_aload_n hx hb d_Sc_init_4 rfl (lv_at hl 0 rfl) ?_
  refine lv_iload_n hx hb d_Sc_init_5 rfl (lv_at hl 1 rfl) ?_
  obtain ⟨t1, hq⟩ := hq
  refine bw_putI hx hb ht in_Sc y_Sc yk_Sc nm_Sc hown hK hW rfl t1 (by decide) rfl 0 (by decide) rfl (ht _ m_403) (fun _ h => h) (Or.inr ⟨rfl, hnm, rfl⟩) rfl rfl d_Sc_init_6 (fun H locs hW => ?_)
  refine bw_aload_n hx hb d_Sc_init_9 rfl (lv_at hl 0 rfl) ?_
  refine bw_aload_n hx hb d_Sc_init_10 rfl (lv_at hl 2 rfl) ?_
  refine bw_putR hx hb ht in_Sc y_Sc yk_Sc nm_Sc hown hK hW rfl t1 (by decide) rfl 1 (by decide) rfl (ht _ m_405) (fun _ h => h) (Or.inr ⟨rfl, hnm, rfl⟩) (bw_nr _ _) (bw_fr _ _) d_Sc_init_11 (fun H locs hW => ?_)
  refine bw_aload_n hx hb d_Sc_init_14 rfl (lv_at hl 0 rfl) ?_
  refine lv_iload_n hx hb d_Sc_init_15 rfl (lv_at hl 3 rfl) ?_
  refine bw_putI hx hb ht in_Sc y_Sc yk_Sc nm_Sc hown hK hW rfl t1 (by decide) rfl 2 (by decide) rfl (ht _ m_407) (fun _ h => h) (Or.inr ⟨rfl, hnm, rfl⟩) rfl rfl d_Sc_init_16 (fun H locs hW => ?_)
  refine bw_aload_n hx hb d_Sc_init_19 rfl (lv_at hl 0 rfl) ?_
  refine lv_iload hx hb d_Sc_init_20 (lv_at hl 4 rfl) ?_
  refine bw_putI hx hb ht in_Sc y_Sc yk_Sc nm_Sc hown hK hW rfl t1 (by decide) rfl 3 (by decide) rfl (ht _ m_409) (fun _ h => h) (Or.inr ⟨rfl, hnm, rfl⟩) rfl rfl d_Sc_init_22 (fun H locs hW => ?_)
  exact bw_vret C hW ⟨rfl, hq⟩ d_Sc_init_25 hc hs
theorem ci_Sc_init : CI n_Sc_init b_Sc_init 5 none 4 := ⟨m_401, m_20, by decide, by decide, by decide +kernel⟩
theorem c_Sc_init {l : Launch} {D : va_G} {AC : Nat → ClassId} {e0 mi : Nat} {Q : Wd → Prop} (hl0 : l.stackTraces = false) (x0 : Nat) (x1 : Int32) (x2 : Option Nat) (x3 : Int32) (x4 : Int32) (w : Wd) (hq : wp_Sc_init e0 mi x0 x1 x2 x3 x4 w Q) : Ct l D AC e0 mi n_Sc_init (wy n_Sc_init b_Sc_init 5 none) 1 40 [va_rf (some x0), .int x1, va_rf x2, .int x3, .int x4] w 0 0 (fun v w9 => v = none ∧ Q w9) (fun _ _ => False) :=
  Ct.of hl0 (by decide) (by simp [lg_sl, bw_cat, cat_i, cat_j]) (fun p e s m args below meth c A ls C hW hl => k_Sc_init_0 C x0 x1 x2 x3 x4 w hq s.heap [] 0 0 ls hW (by simpa [lv_args, bw_cat, cat_i, cat_j] using hl) (Nat.le_refl _) (Nat.le_refl _))
def wp_It_init (e0 mi : Nat) (x0 : Nat) (x1 : Int32) (x2 : Int32) (x3 : Int32) (w : Wd) (Q : Wd → Prop) : Prop :=
  bw_is w x0 2 ∧ (Q (sI (sI (sI (sI (sI (sR (sR (sR (sI (sI (sI w x0 0 x1) x0 1 x2) x0 2 x3) x0 3 none) x0 4 none) x0 5 none) x0 6 (0 : Int32)) x0 7 (0 : Int32)) x0 8 (0 : Int32)) x0 9 (0 : Int32)) x0 10 (0 : Int32)))
set_option maxHeartbeats 4000000 in
set_option maxRecDepth 100000 in
theorem k_It_init_0 {p : Program} {l : Launch} {e : Env} {s : State} {m : MethodId} {args : Array Value} {below : List Frame} {meth : Method} {c : Code} {D : va_G} {AC : Nat → ClassId} {e0 mi : Nat} {A : Nat → Prop} {mc ms : Nat} {Q : Wd → Prop} (C : Cx p l s m args meth c D AC e0 mi A n_It_init b_It_init 4 none) (x0 : Nat) (x1 : Int32) (x2 : Int32) (x3 : Int32) (w : Wd) (hq : wp_It_init e0 mi x0 x1 x2 x3 w Q) : ∀ (H : Heap) (locs : List Loc) (cells slots : Nat) (ls : Array Slot), HW D cls8 FTc AC A s.heap H locs w → lv_has ls 4 [(0, va_rf (some x0)), (1, .int x1), (2, .int x2), (3, .int x3)] → cells ≤ mc → slots ≤ ms → W p l e { frames := 1, cells := mc, slots := ms, locals := 40 } s m args below meth c H locs cells slots (vx_MQ below (QQ D AC A (fun v w9 => v = none ∧ Q w9)) (XX D AC A (fun _ _ => False)) args s mc ms A) (F0 m 0 ls []) := by
  obtain ⟨hl0, hx, hb, hr, ht, hown, hlocks, hnm, hml, hex, hK, hA, hZ, hV⟩ := id C
  intro H locs cells slots ls hW hl hc hs
  unfold wp_It_init at hq
  refine bw_aload_n hx hb d_It_init_0 rfl (lv_at hl 0 rfl) ?_
  refine W.objInit hx hb hown (ht _ m_442) (ht _ m_31) (ht _ m_32) rfl (by rw [hml]; exact hl.1) rfl d_It_init_1 (Nat.le_of_ble_eq_true rfl) (Nat.le_of_ble_eq_true rfl) ?_
  refine W.eq (g2 := F0 m 4 ls []) rfl ?_
  refine bw_aload_n hx hb d_It_init_4 rfl (lv_at hl 0 rfl) ?_
  refine lv_iload_n hx hb d_It_init_5 rfl (lv_at hl 1 rfl) ?_
  obtain ⟨t1, hq⟩ := hq
  refine bw_putI hx hb ht in_It y_It yk_It nm_It hown hK hW rfl t1 (by decide) rfl 0 (by decide) rfl (ht _ m_443) (fun _ h => h) (Or.inr ⟨rfl, hnm, rfl⟩) rfl rfl d_It_init_6 (fun H locs hW => ?_)
  refine bw_aload_n hx hb d_It_init_9 rfl (lv_at hl 0 rfl) ?_
  refine lv_iload_n hx hb d_It_init_10 rfl (lv_at hl 2 rfl) ?_
  refine bw_putI hx hb ht in_It y_It yk_It nm_It hown hK hW rfl t1 (by decide) rfl 1 (by decide) rfl (ht _ m_445) (fun _ h => h) (Or.inr ⟨rfl, hnm, rfl⟩) rfl rfl d_It_init_11 (fun H locs hW => ?_)
  refine bw_aload_n hx hb d_It_init_14 rfl (lv_at hl 0 rfl) ?_
  refine lv_iload_n hx hb d_It_init_15 rfl (lv_at hl 3 rfl) ?_
  refine bw_putI hx hb ht in_It y_It yk_It nm_It hown hK hW rfl t1 (by decide) rfl 2 (by decide) rfl (ht _ m_447) (fun _ h => h) (Or.inr ⟨rfl, hnm, rfl⟩) rfl rfl d_It_init_16 (fun H locs hW => ?_)
  refine bw_aload_n hx hb d_It_init_19 rfl (lv_at hl 0 rfl) ?_
  refine bw_null hx hb d_It_init_20 ?_
  refine bw_putR hx hb ht in_It y_It yk_It nm_It hown hK hW rfl t1 (by decide) rfl 3 (by decide) rfl (ht _ m_449) (fun _ h => h) (Or.inl rfl) (bw_nr _ _) (bw_fr _ _) d_It_init_21 (fun H locs hW => ?_)
  refine bw_aload_n hx hb d_It_init_24 rfl (lv_at hl 0 rfl) ?_
  refine bw_null hx hb d_It_init_25 ?_
  refine bw_putR hx hb ht in_It y_It yk_It nm_It hown hK hW rfl t1 (by decide) rfl 4 (by decide) rfl (ht _ m_451) (fun _ h => h) (Or.inl rfl) (bw_nr _ _) (bw_fr _ _) d_It_init_26 (fun H locs hW => ?_)
  refine bw_aload_n hx hb d_It_init_29 rfl (lv_at hl 0 rfl) ?_
  refine bw_null hx hb d_It_init_30 ?_
  refine bw_putR hx hb ht in_It y_It yk_It nm_It hown hK hW rfl t1 (by decide) rfl 5 (by decide) rfl (ht _ m_453) (fun _ h => h) (Or.inl rfl) (bw_nr _ _) (bw_fr _ _) d_It_init_31 (fun H locs hW => ?_)
  refine bw_aload_n hx hb d_It_init_34 rfl (lv_at hl 0 rfl) ?_
  refine lv_iconst (v := 0) hx hb d_It_init_35 (by decide) ?_
  refine bw_putI hx hb ht in_It y_It yk_It nm_It hown hK hW rfl t1 (by decide) rfl 6 (by decide) rfl (ht _ m_456) (fun _ h => h) (Or.inl rfl) rfl rfl d_It_init_36 (fun H locs hW => ?_)
  refine bw_aload_n hx hb d_It_init_39 rfl (lv_at hl 0 rfl) ?_
  refine lv_iconst (v := 0) hx hb d_It_init_40 (by decide) ?_
  refine bw_putI hx hb ht in_It y_It yk_It nm_It hown hK hW rfl t1 (by decide) rfl 7 (by decide) rfl (ht _ m_458) (fun _ h => h) (Or.inl rfl) rfl rfl d_It_init_41 (fun H locs hW => ?_)
  refine bw_aload_n hx hb d_It_init_44 rfl (lv_at hl 0 rfl) ?_
  refine lv_iconst (v := 0) hx hb d_It_init_45 (by decide) ?_
  refine bw_putI hx hb ht in_It y_It yk_It nm_It hown hK hW rfl t1 (by decide) rfl 8 (by decide) rfl (ht _ m_461) (fun _ h => h) (Or.inl rfl) rfl rfl d_It_init_46 (fun H locs hW => ?_)
  refine bw_aload_n hx hb d_It_init_49 rfl (lv_at hl 0 rfl) ?_
  refine lv_iconst (v := 0) hx hb d_It_init_50 (by decide) ?_
  refine bw_putI hx hb ht in_It y_It yk_It nm_It hown hK hW rfl t1 (by decide) rfl 9 (by decide) rfl (ht _ m_463) (fun _ h => h) (Or.inl rfl) rfl rfl d_It_init_51 (fun H locs hW => ?_)
  refine bw_aload_n hx hb d_It_init_54 rfl (lv_at hl 0 rfl) ?_
  refine lv_iconst (v := 0) hx hb d_It_init_55 (by decide) ?_
  refine bw_putI hx hb ht in_It y_It yk_It nm_It hown hK hW rfl t1 (by decide) rfl 10 (by decide) rfl (ht _ m_466) (fun _ h => h) (Or.inl rfl) rfl rfl d_It_init_56 (fun H locs hW => ?_)
  exact bw_vret C hW ⟨rfl, hq⟩ d_It_init_59 hc hs
theorem ci_It_init : CI n_It_init b_It_init 4 none 3 := ⟨m_441, m_21, by decide, by decide, by decide +kernel⟩
theorem c_It_init {l : Launch} {D : va_G} {AC : Nat → ClassId} {e0 mi : Nat} {Q : Wd → Prop} (hl0 : l.stackTraces = false) (x0 : Nat) (x1 : Int32) (x2 : Int32) (x3 : Int32) (w : Wd) (hq : wp_It_init e0 mi x0 x1 x2 x3 w Q) : Ct l D AC e0 mi n_It_init (wy n_It_init b_It_init 4 none) 1 40 [va_rf (some x0), .int x1, .int x2, .int x3] w 0 0 (fun v w9 => v = none ∧ Q w9) (fun _ _ => False) :=
  Ct.of hl0 (by decide) (by simp [lg_sl, bw_cat, cat_i, cat_j]) (fun p e s m args below meth c A ls C hW hl => k_It_init_0 C x0 x1 x2 x3 w hq s.heap [] 0 0 ls hW (by simpa [lv_args, bw_cat, cat_i, cat_j] using hl) (Nat.le_refl _) (Nat.le_refl _))
def wp_It_startOn (e0 mi : Nat) (x0 : Nat) (x1 : Option Nat) (x2 : Option Nat) (w : Wd) (Q : Wd → Prop) : Prop :=
  bw_is w x0 2 ∧ (wp_It_forgetWay e0 mi x0 (sI (sI (sR (sR (sR w x0 3 x1) x0 4 x2) x0 5 none) x0 7 (0 : Int32)) x0 8 (0 : Int32)) (fun w3 => Q w3))
set_option maxHeartbeats 4000000 in
set_option maxRecDepth 100000 in
theorem k_It_startOn_0 {p : Program} {l : Launch} {e : Env} {s : State} {m : MethodId} {args : Array Value} {below : List Frame} {meth : Method} {c : Code} {D : va_G} {AC : Nat → ClassId} {e0 mi : Nat} {A : Nat → Prop} {mc ms : Nat} {Q : Wd → Prop} (C : Cx p l s m args meth c D AC e0 mi A n_It_startOn b_It_startOn 3 none) (x0 : Nat) (x1 : Option Nat) (x2 : Option Nat) (w : Wd) (hq : wp_It_startOn e0 mi x0 x1 x2 w Q) : ∀ (H : Heap) (locs : List Loc) (cells slots : Nat) (ls : Array Slot), HW D cls8 FTc AC A s.heap H locs w → lv_has ls 3 [(0, va_rf (some x0)), (1, va_rf x1), (2, va_rf x2)] → cells ≤ mc → slots ≤ ms → W p l e { frames := 1, cells := mc, slots := ms, locals := 20 } s m args below meth c H locs cells slots (vx_MQ below (QQ D AC A (fun v w9 => v = none ∧ Q w9)) (XX D AC A (fun _ _ => False)) args s mc ms A) (F0 m 0 ls []) := by
  obtain ⟨hl0, hx, hb, hr, ht, hown, hlocks, hnm, hml, hex, hK, hA, hZ, hV⟩ := id C
  intro H locs cells slots ls hW hl hc hs
  unfold wp_It_startOn at hq
  refine bw_aload_n hx hb d_It_startOn_0 rfl (lv_at hl 0 rfl) ?_
  refine bw_aload_n hx hb d_It_startOn_1 rfl (lv_at hl 1 rfl) ?_
  obtain ⟨t1, hq⟩ := hq
  refine bw_putR hx hb ht in_It y_It yk_It nm_It hown hK hW rfl t1 (by decide) rfl 3 (by decide) rfl (ht _ m_449) (fun _ h => h) (Or.inl rfl) (bw_nr _ _) (bw_fr _ _) d_It_startOn_2 (fun H locs hW => ?_)
  refine bw_aload_n hx hb d_It_startOn_5 rfl (lv_at hl 0 rfl) ?_
  refine bw_aload_n hx hb d_It_startOn_6 rfl (lv_at hl 2 rfl) ?_
  refine bw_putR hx hb ht in_It y_It yk_It nm_It hown hK hW rfl t1 (by decide) rfl 4 (by decide) rfl (ht _ m_451) (fun _ h => h) (Or.inl rfl) (bw_nr _ _) (bw_fr _ _) d_It_startOn_7 (fun H locs hW => ?_)
  refine bw_aload_n hx hb d_It_startOn_10 rfl (lv_at hl 0 rfl) ?_
  refine bw_null hx hb d_It_startOn_11 ?_
  refine bw_putR hx hb ht in_It y_It yk_It nm_It hown hK hW rfl t1 (by decide) rfl 5 (by decide) rfl (ht _ m_453) (fun _ h => h) (Or.inl rfl) (bw_nr _ _) (bw_fr _ _) d_It_startOn_12 (fun H locs hW => ?_)
  refine bw_aload_n hx hb d_It_startOn_15 rfl (lv_at hl 0 rfl) ?_
  refine lv_iconst (v := 0) hx hb d_It_startOn_16 (by decide) ?_
  refine bw_putI hx hb ht in_It y_It yk_It nm_It hown hK hW rfl t1 (by decide) rfl 7 (by decide) rfl (ht _ m_458) (fun _ h => h) (Or.inl rfl) rfl rfl d_It_startOn_17 (fun H locs hW => ?_)
  refine bw_aload_n hx hb d_It_startOn_20 rfl (lv_at hl 0 rfl) ?_
  refine lv_iconst (v := 0) hx hb d_It_startOn_21 (by decide) ?_
  refine bw_putI hx hb ht in_It y_It yk_It nm_It hown hK hW rfl t1 (by decide) rfl 8 (by decide) rfl (ht _ m_461) (fun _ h => h) (Or.inl rfl) rfl rfl d_It_startOn_22 (fun H locs hW => ?_)
  refine bw_aload_n hx hb d_It_startOn_25 rfl (lv_at hl 0 rfl) ?_
  refine bw_callV (As := []) (rest := []) C hW ci_It_forgetWay m_499 m_501 sel_It_forgetWay d_It_startOn_26 rfl t1 (by decide) rfl rfl rfl hl.1 (by decide) ⟨Nat.le_of_ble_eq_true rfl, Nat.le_of_ble_eq_true rfl⟩ ⟨hc, hs⟩ (c_It_forgetWay hl0 _ _ hq) (fun _ _ _ _ _ _ h => h.elim) (fun v2 w3 H locs hv hW => ?_)
  obtain ⟨rfl, hq⟩ := hv
  refine W.eq (g2 := F0 m 29 ls []) rfl ?_
  exact bw_vret C hW ⟨rfl, hq⟩ d_It_startOn_29 hc hs
theorem ci_It_startOn : CI n_It_startOn b_It_startOn 3 none 2 := ⟨m_498, m_21, by decide, by decide, by decide +kernel⟩
theorem c_It_startOn {l : Launch} {D : va_G} {AC : Nat → ClassId} {e0 mi : Nat} {Q : Wd → Prop} (hl0 : l.stackTraces = false) (x0 : Nat) (x1 : Option Nat) (x2 : Option Nat) (w : Wd) (hq : wp_It_startOn e0 mi x0 x1 x2 w Q) : Ct l D AC e0 mi n_It_startOn (wy n_It_startOn b_It_startOn 3 none) 1 20 [va_rf (some x0), va_rf x1, va_rf x2] w 0 0 (fun v w9 => v = none ∧ Q w9) (fun _ _ => False) :=
  Ct.of hl0 (by decide) (by simp [lg_sl, bw_cat, cat_i, cat_j]) (fun p e s m args below meth c A ls C hW hl => k_It_startOn_0 C x0 x1 x2 w hq s.heap [] 0 0 ls hW (by simpa [lv_args, bw_cat, cat_i, cat_j] using hl) (Nat.le_refl _) (Nat.le_refl _))
def wp_Bt_init (e0 mi : Nat) (x0 : Nat) (x1 : Int32) (x2 : Int32) (x3 : Int32) (w : Wd) (nc ns : Nat) (Q : Wd → Prop) : Prop :=
  bw_is w x0 0 ∧ (1 ≤ nc ∧ 3 ≤ ns ∧ ∀ q2 : Nat, q2 ∉ wL (sI (sR (sR (sI (sI (sI (sI w x0 0 x1) x0 1 x2) x0 2 x3) x0 3 (1 : Int32)) x0 4 none) x0 5 none) x0 6 (0 : Int32)) → ∀ w6 : Wd, w6 = bw_new (sI (sR (sR (sI (sI (sI (sI w x0 0 x1) x0 1 x2) x0 2 x3) x0 3 (1 : Int32)) x0 4 none) x0 5 none) x0 6 (0 : Int32)) q2 4 0 → (wp_Wy_init e0 mi q2 w6 (fun w9 => bw_is w9 x0 0 ∧ (1 ≤ (nc - 1) ∧ 3 ≤ (ns - 3) ∧ ∀ q16 : Nat, q16 ∉ wL (sR w9 x0 7 (some q2)) → ∀ w20 : Wd, w20 = bw_new (sR w9 x0 7 (some q2)) q16 4 0 → (wp_Wy_init e0 mi q16 w20 (fun w23 => bw_is w23 x0 0 ∧ (Q (sR w23 x0 8 (some q16)))))))))
set_option maxHeartbeats 4000000 in
set_option maxRecDepth 100000 in
theorem k_Bt_init_0 {p : Program} {l : Launch} {e : Env} {s : State} {m : MethodId} {args : Array Value} {below : List Frame} {meth : Method} {c : Code} {D : va_G} {AC : Nat → ClassId} {e0 mi : Nat} {A : Nat → Prop} {mc ms : Nat} {Q : Wd → Prop} (C : Cx p l s m args meth c D AC e0 mi A n_Bt_init b_Bt_init 4 none) (x0 : Nat) (x1 : Int32) (x2 : Int32) (x3 : Int32) (w : Wd) (nc ns : Nat) (hq : wp_Bt_init e0 mi x0 x1 x2 x3 w nc ns Q) : ∀ (H : Heap) (locs : List Loc) (cells slots : Nat) (ls : Array Slot), HW D cls8 FTc AC A s.heap H locs w → lv_has ls 4 [(0, va_rf (some x0)), (1, .int x1), (2, .int x2), (3, .int x3)] → cells + nc ≤ mc → slots + ns ≤ ms → W p l e { frames := 2, cells := mc, slots := ms, locals := 60 } s m args below meth c H locs cells slots (vx_MQ below (QQ D AC A (fun v w9 => v = none ∧ Q w9)) (XX D AC A (fun _ _ => False)) args s mc ms A) (F0 m 0 ls []) := by
  obtain ⟨hl0, hx, hb, hr, ht, hown, hlocks, hnm, hml, hex, hK, hA, hZ, hV⟩ := id C
  intro H locs cells slots ls hW hl hc hs
  unfold wp_Bt_init at hq
  refine bw_aload_n hx hb d_Bt_init_0 rfl (lv_at hl 0 rfl) ?_
  refine W.objInit hx hb hown (ht _ m_216) (ht _ m_31) (ht _ m_32) rfl (by rw [hml]; exact hl.1) rfl d_Bt_init_1 (Nat.le_of_ble_eq_true rfl) (Nat.le_of_ble_eq_true rfl) ?_
  refine W.eq (g2 := F0 m 4 ls []) rfl ?_
  refine bw_aload_n hx hb d_Bt_init_4 rfl (lv_at hl 0 rfl) ?_
  refine lv_iload_n hx hb d_Bt_init_5 rfl (lv_at hl 1 rfl) ?_
  obtain ⟨t1, hq⟩ := hq
  refine bw_putI hx hb ht in_Bt y_Bt yk_Bt nm_Bt hown hK hW rfl t1 (by decide) rfl 0 (by decide) rfl (ht _ m_236) (fun _ h => h) (Or.inr ⟨rfl, hnm, rfl⟩) rfl rfl d_Bt_init_6 (fun H locs hW => ?_)
  refine bw_aload_n hx hb d_Bt_init_9 rfl (lv_at hl 0 rfl) ?_
  refine lv_iload_n hx hb d_Bt_init_10 rfl (lv_at hl 2 rfl) ?_
  refine bw_putI hx hb ht in_Bt y_Bt yk_Bt nm_Bt hown hK hW rfl t1 (by decide) rfl 1 (by decide) rfl (ht _ m_239) (fun _ h => h) (Or.inr ⟨rfl, hnm, rfl⟩) rfl rfl d_Bt_init_11 (fun H locs hW => ?_)
  refine bw_aload_n hx hb d_Bt_init_14 rfl (lv_at hl 0 rfl) ?_
  refine lv_iload_n hx hb d_Bt_init_15 rfl (lv_at hl 3 rfl) ?_
  refine bw_putI hx hb ht in_Bt y_Bt yk_Bt nm_Bt hown hK hW rfl t1 (by decide) rfl 2 (by decide) rfl (ht _ m_242) (fun _ h => h) (Or.inl rfl) rfl rfl d_Bt_init_16 (fun H locs hW => ?_)
  refine bw_aload_n hx hb d_Bt_init_19 rfl (lv_at hl 0 rfl) ?_
  refine lv_iconst (v := 1) hx hb d_Bt_init_20 (by decide) ?_
  refine bw_putI hx hb ht in_Bt y_Bt yk_Bt nm_Bt hown hK hW rfl t1 (by decide) rfl 3 (by decide) rfl (ht _ m_245) (fun _ h => h) (Or.inl rfl) rfl rfl d_Bt_init_21 (fun H locs hW => ?_)
  refine bw_aload_n hx hb d_Bt_init_24 rfl (lv_at hl 0 rfl) ?_
  refine bw_null hx hb d_Bt_init_25 ?_
  refine bw_putR hx hb ht in_Bt y_Bt yk_Bt nm_Bt hown hK hW rfl t1 (by decide) rfl 4 (by decide) rfl (ht _ m_247) (fun _ h => h) (Or.inl rfl) (bw_nr _ _) (bw_fr _ _) d_Bt_init_26 (fun H locs hW => ?_)
  refine bw_aload_n hx hb d_Bt_init_29 rfl (lv_at hl 0 rfl) ?_
  refine bw_null hx hb d_Bt_init_30 ?_
  refine bw_putR hx hb ht in_Bt y_Bt yk_Bt nm_Bt hown hK hW rfl t1 (by decide) rfl 5 (by decide) rfl (ht _ m_249) (fun _ h => h) (Or.inl rfl) (bw_nr _ _) (bw_fr _ _) d_Bt_init_31 (fun H locs hW => ?_)
  refine bw_aload_n hx hb d_Bt_init_34 rfl (lv_at hl 0 rfl) ?_
  refine lv_iconst (v := 0) hx hb d_Bt_init_35 (by decide) ?_
  refine bw_putI hx hb ht in_Bt y_Bt yk_Bt nm_Bt hown hK hW rfl t1 (by decide) rfl 6 (by decide) rfl (ht _ m_251) (fun _ h => h) (Or.inl rfl) rfl rfl d_Bt_init_36 (fun H locs hW => ?_)
  refine bw_aload_n hx hb d_Bt_init_39 rfl (lv_at hl 0 rfl) ?_
  obtain ⟨h3, h4, hq⟩ := hq
  refine bw_mk (ci := 4) hx hb ht in_Wy y_Wy yk_Wy hown (ht _ m_217) (ht _ m_218) (ht _ m_12) hK hW hA (by decide) (by rfl) df_Wy (Nat.le_trans (Nat.add_le_add_left h3 _) hc) (Nat.le_trans (Nat.add_le_add_left h4 _) hs) d_Bt_init_40 (fun q2 H n5 hW => ?_)
  obtain ⟨w6, ew6⟩ : ∃ z : Wd, z = bw_new (sI (sR (sR (sI (sI (sI (sI w x0 0 x1) x0 1 x2) x0 2 x3) x0 3 (1 : Int32)) x0 4 none) x0 5 none) x0 6 (0 : Int32)) q2 4 0 := ⟨_, rfl⟩
  rw [← ew6] at hW
  have hq := hq q2 n5 w6 ew6
  have hc := bw_bud hc h3
  have hs := bw_bud hs h4
  have t1 : bw_is w6 x0 0 := by rw [ew6]; exact bw_is_new n5 t1
  have t7 : bw_is w6 q2 4 := by rw [ew6]; exact bw_is_self _ _ _ _
  refine lv_dup hx hb d_Bt_init_43 (bw_cat _) ?_
  refine bw_callI (As := []) (rest := [va_rf (some q2), va_rf (some x0)]) C hW ci_Wy_init rfl m_219 m_220 d_Bt_init_44 rfl rfl hl.1 (by simp [bw_cat, cat_i, cat_j]) ⟨Nat.le_of_ble_eq_true rfl, Nat.le_of_ble_eq_true rfl⟩ ⟨Nat.le_trans (Nat.add_le_add_left (Nat.zero_le _) _) hc, Nat.le_trans (Nat.add_le_add_left (Nat.zero_le _) _) hs⟩ (c_Wy_init hl0 _ _ hq) (fun v8 w9 H locs hv hW => ?_)
  obtain ⟨rfl, hq⟩ := hv
  have hc := bw_bud0 hc
  have hs := bw_bud0 hs
  refine W.eq (g2 := F0 m 47 ls [va_rf (some q2), va_rf (some x0)]) rfl ?_
  obtain ⟨t15, hq⟩ := hq
  refine bw_putR hx hb ht in_Bt y_Bt yk_Bt nm_Bt hown hK hW rfl t15 (by decide) rfl 7 (by decide) rfl (ht _ m_253) (fun _ h => h) (Or.inr ⟨rfl, hnm, rfl⟩) (bw_nr _ _) (bw_fr _ _) d_Bt_init_47 (fun H locs hW => ?_)
  refine bw_aload_n hx hb d_Bt_init_50 rfl (lv_at hl 0 rfl) ?_
  obtain ⟨h17, h18, hq⟩ := hq
  refine bw_mk (ci := 4) hx hb ht in_Wy y_Wy yk_Wy hown (ht _ m_217) (ht _ m_218) (ht _ m_12) hK hW hA (by decide) (by rfl) df_Wy (Nat.le_trans (Nat.add_le_add_left h17 _) hc) (Nat.le_trans (Nat.add_le_add_left h18 _) hs) d_Bt_init_51 (fun q16 H n19 hW => ?_)
  obtain ⟨w20, ew20⟩ : ∃ z : Wd, z = bw_new (sR w9 x0 7 (some q2)) q16 4 0 := ⟨_, rfl⟩
  rw [← ew20] at hW
  have hq := hq q16 n19 w20 ew20
  have hc := bw_bud hc h17
  have hs := bw_bud hs h18
  have t15 : bw_is w20 x0 0 := by rw [ew20]; exact bw_is_new n19 t15
  have t21 : bw_is w20 q16 4 := by rw [ew20]; exact bw_is_self _ _ _ _
  refine lv_dup hx hb d_Bt_init_54 (bw_cat _) ?_
  refine bw_callI (As := []) (rest := [va_rf (some q16), va_rf (some x0)]) C hW ci_Wy_init rfl m_219 m_220 d_Bt_init_55 rfl rfl hl.1 (by simp [bw_cat, cat_i, cat_j]) ⟨Nat.le_of_ble_eq_true rfl, Nat.le_of_ble_eq_true rfl⟩ ⟨Nat.le_trans (Nat.add_le_add_left (Nat.zero_le _) _) hc, Nat.le_trans (Nat.add_le_add_left (Nat.zero_le _) _) hs⟩ (c_Wy_init hl0 _ _ hq) (fun v22 w23 H locs hv hW => ?_)
  obtain ⟨rfl, hq⟩ := hv
  have hc := bw_bud0 hc
  have hs := bw_bud0 hs
  refine W.eq (g2 := F0 m 58 ls [va_rf (some q16), va_rf (some x0)]) rfl ?_
  obtain ⟨t29, hq⟩ := hq
  refine bw_putR hx hb ht in_Bt y_Bt yk_Bt nm_Bt hown hK hW rfl t29 (by decide) rfl 8 (by decide) rfl (ht _ m_254) (fun _ h => h) (Or.inr ⟨rfl, hnm, rfl⟩) (bw_nr _ _) (bw_fr _ _) d_Bt_init_58 (fun H locs hW => ?_)
  exact bw_vret C hW ⟨rfl, hq⟩ d_Bt_init_61 (Nat.le_trans (Nat.le_add_right _ _) hc) (Nat.le_trans (Nat.le_add_right _ _) hs)
theorem ci_Bt_init : CI n_Bt_init b_Bt_init 4 none 3 := ⟨m_215, m_11, by decide, by decide, by decide +kernel⟩
theorem c_Bt_init {l : Launch} {D : va_G} {AC : Nat → ClassId} {e0 mi : Nat} {Q : Wd → Prop} (hl0 : l.stackTraces = false) (x0 : Nat) (x1 : Int32) (x2 : Int32) (x3 : Int32) (w : Wd) (nc ns : Nat) (hq : wp_Bt_init e0 mi x0 x1 x2 x3 w nc ns Q) : Ct l D AC e0 mi n_Bt_init (wy n_Bt_init b_Bt_init 4 none) 2 60 [va_rf (some x0), .int x1, .int x2, .int x3] w nc ns (fun v w9 => v = none ∧ Q w9) (fun _ _ => False) :=
  Ct.of hl0 (by decide) (by simp [lg_sl, bw_cat, cat_i, cat_j]) (fun p e s m args below meth c A ls C hW hl => k_Bt_init_0 C x0 x1 x2 x3 w nc ns hq s.heap [] 0 0 ls hW (by simpa [lv_args, bw_cat, cat_i, cat_j] using hl) (Nat.le_of_eq (Nat.zero_add _)) (Nat.le_of_eq (Nat.zero_add _)))
def wb_Bt_wayNumbered_16 (e0 mi : Nat) (Q : Option Nat → Wd → Prop) (x0 : Nat) (x1 : Int32) (z0 : Option Nat) (w : Wd) : Prop :=
  Q z0 w
set_option maxHeartbeats 4000000 in
set_option maxRecDepth 100000 in
theorem k_Bt_wayNumbered_16 {p : Program} {l : Launch} {e : Env} {s : State} {m : MethodId} {args : Array Value} {below : List Frame} {meth : Method} {c : Code} {D : va_G} {AC : Nat → ClassId} {e0 mi : Nat} {A : Nat → Prop} {mc ms : Nat} {Q : Option Nat → Wd → Prop} (C : Cx p l s m args meth c D AC e0 mi A n_Bt_wayNumbered b_Bt_wayNumbered 2 (some (.object "BeltRows$Way"))) (x0 : Nat) (x1 : Int32) (z0 : Option Nat) (w : Wd) (hq : wb_Bt_wayNumbered_16 e0 mi Q x0 x1 z0 w) : ∀ (H : Heap) (locs : List Loc) (cells slots : Nat) (ls : Array Slot), HW D cls8 FTc AC A s.heap H locs w → lv_has ls 2 [(0, va_rf (some x0)), (1, .int x1)] → cells ≤ mc → slots ≤ ms → W p l e { frames := 0, cells := mc, slots := ms, locals := 0 } s m args below meth c H locs cells slots (vx_MQ below (QQ D AC A (fun v w9 => ∃ r9 : Option Nat, v = some (va_rf r9) ∧ Q r9 w9)) (XX D AC A (fun _ _ => False)) args s mc ms A) (F0 m 16 ls [va_rf z0]) := by
  obtain ⟨hl0, hx, hb, hr, ht, hown, hlocks, hnm, hml, hex, hK, hA, hZ, hV⟩ := id C
  intro H locs cells slots ls hW hl hc hs
  unfold wb_Bt_wayNumbered_16 at hq
  exact bw_aret C (Or.inl ⟨_, rfl⟩) hW ⟨_, rfl, hq⟩ d_Bt_wayNumbered_16 hc hs
def wp_Bt_wayNumbered (e0 mi : Nat) (x0 : Nat) (x1 : Int32) (w : Wd) (Q : Option Nat → Wd → Prop) : Prop :=
  (¬ x1 = (1 : Int32) → (bw_is w x0 0 ∧ (wb_Bt_wayNumbered_16 e0 mi Q x0 x1 (wR w x0 7) w))) ∧ (x1 = (1 : Int32) → (bw_is w x0 0 ∧ (wb_Bt_wayNumbered_16 e0 mi Q x0 x1 (wR w x0 8) w)))
set_option maxHeartbeats 4000000 in
set_option maxRecDepth 100000 in
theorem k_Bt_wayNumbered_0 {p : Program} {l : Launch} {e : Env} {s : State} {m : MethodId} {args : Array Value} {below : List Frame} {meth : Method} {c : Code} {D : va_G} {AC : Nat → ClassId} {e0 mi : Nat} {A : Nat → Prop} {mc ms : Nat} {Q : Option Nat → Wd → Prop} (C : Cx p l s m args meth c D AC e0 mi A n_Bt_wayNumbered b_Bt_wayNumbered 2 (some (.object "BeltRows$Way"))) (x0 : Nat) (x1 : Int32) (w : Wd) (hq : wp_Bt_wayNumbered e0 mi x0 x1 w Q) : ∀ (H : Heap) (locs : List Loc) (cells slots : Nat) (ls : Array Slot), HW D cls8 FTc AC A s.heap H locs w → lv_has ls 2 [(0, va_rf (some x0)), (1, .int x1)] → cells ≤ mc → slots ≤ ms → W p l e { frames := 0, cells := mc, slots := ms, locals := 0 } s m args below meth c H locs cells slots (vx_MQ below (QQ D AC A (fun v w9 => ∃ r9 : Option Nat, v = some (va_rf r9) ∧ Q r9 w9)) (XX D AC A (fun _ _ => False)) args s mc ms A) (F0 m 0 ls []) := by
  obtain ⟨hl0, hx, hb, hr, ht, hown, hlocks, hnm, hml, hex, hK, hA, hZ, hV⟩ := id C
  intro H locs cells slots ls hW hl hc hs
  unfold wp_Bt_wayNumbered at hq
  refine lv_iload_n hx hb d_Bt_wayNumbered_0 rfl (lv_at hl 1 rfl) ?_
  refine lv_iconst (v := 1) hx hb d_Bt_wayNumbered_1 (by decide) ?_
  refine lv_icmp_ne (tgt := 12) hx hb d_Bt_wayNumbered_2 (by decide) (fun c1 => ?_) (fun c1 => ?_)
  · have hq := hq.1 c1
    refine bw_aload_n hx hb d_Bt_wayNumbered_12 rfl (lv_at hl 0 rfl) ?_
    obtain ⟨t2, hq⟩ := hq
    refine bw_getR hx hb ht in_Bt hown hK hW rfl t2 (by decide) rfl 7 (by decide) rfl (ht _ m_253) (fun _ h => h) d_Bt_wayNumbered_13 ?_
    exact k_Bt_wayNumbered_16 C  _ _ _ _ hq _ _ _ _ _ hW (lv_sub hl [0, 1] rfl) hc hs
  · have hq := hq.2 c1
    refine bw_aload_n hx hb d_Bt_wayNumbered_5 rfl (lv_at hl 0 rfl) ?_
    obtain ⟨t3, hq⟩ := hq
    refine bw_getR hx hb ht in_Bt hown hK hW rfl t3 (by decide) rfl 8 (by decide) rfl (ht _ m_254) (fun _ h => h) d_Bt_wayNumbered_6 ?_
    refine lv_goto (tgt := 16) hx hb d_Bt_wayNumbered_9 (by decide) ?_
    exact k_Bt_wayNumbered_16 C  _ _ _ _ hq _ _ _ _ _ hW (lv_sub hl [0, 1] rfl) hc hs
theorem ci_Bt_wayNumbered : CI n_Bt_wayNumbered b_Bt_wayNumbered 2 (some (.object "BeltRows$Way")) 1 := ⟨m_366, m_11, by decide, by decide, by decide +kernel⟩
theorem c_Bt_wayNumbered {l : Launch} {D : va_G} {AC : Nat → ClassId} {e0 mi : Nat} {Q : Option Nat → Wd → Prop} (hl0 : l.stackTraces = false) (x0 : Nat) (x1 : Int32) (w : Wd) (hq : wp_Bt_wayNumbered e0 mi x0 x1 w Q) : Ct l D AC e0 mi n_Bt_wayNumbered (wy n_Bt_wayNumbered b_Bt_wayNumbered 2 (some (.object "BeltRows$Way"))) 0 0 [va_rf (some x0), .int x1] w 0 0 (fun v w9 => ∃ r9 : Option Nat, v = some (va_rf r9) ∧ Q r9 w9) (fun _ _ => False) :=
  Ct.of hl0 (by decide) (by simp [lg_sl, bw_cat, cat_i, cat_j]) (fun p e s m args below meth c A ls C hW hl => k_Bt_wayNumbered_0 C x0 x1 w hq s.heap [] 0 0 ls hW (by simpa [lv_args, bw_cat, cat_i, cat_j] using hl) (Nat.le_refl _) (Nat.le_refl _))
def wb_Bt_wayOf_36 (e0 mi : Nat) (Q : Option Nat → Wd → Prop) (x0 : Nat) (x1 : Option Nat) (x2 : Option Nat) (z0 : Option Nat) (w : Wd) : Prop :=
  Q z0 w
set_option maxHeartbeats 4000000 in
set_option maxRecDepth 100000 in
theorem k_Bt_wayOf_36 {p : Program} {l : Launch} {e : Env} {s : State} {m : MethodId} {args : Array Value} {below : List Frame} {meth : Method} {c : Code} {D : va_G} {AC : Nat → ClassId} {e0 mi : Nat} {A : Nat → Prop} {mc ms : Nat} {Q : Option Nat → Wd → Prop} (C : Cx p l s m args meth c D AC e0 mi A n_Bt_wayOf b_Bt_wayOf 3 (some (.object "BeltRows$Way"))) (x0 : Nat) (x1 : Option Nat) (x2 : Option Nat) (z0 : Option Nat) (w : Wd) (hq : wb_Bt_wayOf_36 e0 mi Q x0 x1 x2 z0 w) : ∀ (H : Heap) (locs : List Loc) (cells slots : Nat) (ls : Array Slot), HW D cls8 FTc AC A s.heap H locs w → lv_has ls 3 [(0, va_rf (some x0)), (1, va_rf x1), (2, va_rf x2)] → cells ≤ mc → slots ≤ ms → W p l e { frames := 1, cells := mc, slots := ms, locals := 21 } s m args below meth c H locs cells slots (vx_MQ below (QQ D AC A (fun v w9 => ∃ r9 : Option Nat, v = some (va_rf r9) ∧ Q r9 w9)) (XX D AC A (fun _ _ => False)) args s mc ms A) (F0 m 36 ls [va_rf z0]) := by
  obtain ⟨hl0, hx, hb, hr, ht, hown, hlocks, hnm, hml, hex, hK, hA, hZ, hV⟩ := id C
  intro H locs cells slots ls hW hl hc hs
  unfold wb_Bt_wayOf_36 at hq
  exact bw_aret C (Or.inl ⟨_, rfl⟩) hW ⟨_, rfl, hq⟩ d_Bt_wayOf_36 hc hs
def wp_Bt_wayOf (e0 mi : Nat) (x0 : Nat) (x1 : Option Nat) (w : Wd) (Q : Option Nat → Wd → Prop) : Prop :=
  ∃ a1 : Nat, x1 = some a1 ∧ (bw_is w a1 2 ∧ (bw_is w x0 0 ∧ (wp_Bt_wayNumbered e0 mi x0 (wI w a1 9) w (fun r10 w5 => ∃ a11 : Nat, r10 = some a11 ∧ (bw_is w5 a11 4 ∧ (((wR w5 a11 0) = none → (bw_is w5 x0 0 ∧ (∃ a15 : Nat, (wR w5 x0 7) = some a15 ∧ (bw_is w5 a15 4 ∧ (((wR w5 a15 0) = none → (wb_Bt_wayOf_36 e0 mi Q x0 x1 r10 none w5)) ∧ (¬ (wR w5 a15 0) = none → (wb_Bt_wayOf_36 e0 mi Q x0 x1 r10 (wR w5 x0 7) w5))))))) ∧ (¬ (wR w5 a11 0) = none → (Q r10 w5))))))))
set_option maxHeartbeats 4000000 in
set_option maxRecDepth 100000 in
theorem k_Bt_wayOf_0 {p : Program} {l : Launch} {e : Env} {s : State} {m : MethodId} {args : Array Value} {below : List Frame} {meth : Method} {c : Code} {D : va_G} {AC : Nat → ClassId} {e0 mi : Nat} {A : Nat → Prop} {mc ms : Nat} {Q : Option Nat → Wd → Prop} (C : Cx p l s m args meth c D AC e0 mi A n_Bt_wayOf b_Bt_wayOf 3 (some (.object "BeltRows$Way"))) (x0 : Nat) (x1 : Option Nat) (w : Wd) (hq : wp_Bt_wayOf e0 mi x0 x1 w Q) : ∀ (H : Heap) (locs : List Loc) (cells slots : Nat) (ls : Array Slot), HW D cls8 FTc AC A s.heap H locs w → lv_has ls 3 [(0, va_rf (some x0)), (1, va_rf x1)] → cells ≤ mc → slots ≤ ms → W p l e { frames := 1, cells := mc, slots := ms, locals := 21 } s m args below meth c H locs cells slots (vx_MQ below (QQ D AC A (fun v w9 => ∃ r9 : Option Nat, v = some (va_rf r9) ∧ Q r9 w9)) (XX D AC A (fun _ _ => False)) args s mc ms A) (F0 m 0 ls []) := by
  obtain ⟨hl0, hx, hb, hr, ht, hown, hlocks, hnm, hml, hex, hK, hA, hZ, hV⟩ := id C
  intro H locs cells slots ls hW hl hc hs
  unfold wp_Bt_wayOf at hq
  refine bw_aload_n hx hb d_Bt_wayOf_0 rfl (lv_at hl 0 rfl) ?_
  refine bw_aload_n hx hb d_Bt_wayOf_1 rfl (lv_at hl 1 rfl) ?_
  obtain ⟨a1, ea1, hq⟩ := hq
  obtain ⟨t2, hq⟩ := hq
  refine bw_getI hx hb ht in_It hown hK hW ea1 t2 (by decide) rfl 9 (by decide) rfl (ht _ m_464) (fun _ h => h) d_Bt_wayOf_2 ?_
  obtain ⟨t3, hq⟩ := hq
  refine bw_callV (As := [.int (wI w a1 9)]) (rest := []) C hW ci_Bt_wayNumbered m_580 m_364 m_365 d_Bt_wayOf_5 rfl t3 (by decide) rfl rfl rfl hl.1 (by decide) ⟨Nat.le_of_ble_eq_true rfl, Nat.le_of_ble_eq_true rfl⟩ ⟨hc, hs⟩ (c_Bt_wayNumbered hl0 _ _ _ hq) (fun _ _ _ _ _ _ h => h.elim) (fun v4 w5 H locs hv hW => ?_)
  obtain ⟨r10, rfl, hq⟩ := hv
  refine W.eq (g2 := F0 m 8 ls [va_rf r10]) rfl ?_
  refine bw_astore_n (i := 2) (lv' := [(2, va_rf r10), (0, va_rf (some x0)), (1, va_rf x1)]) hx hb d_Bt_wayOf_8 rfl hl (by decide) (by simp [bw_cat, cat_i, cat_j]) (fun ls hl => ?_)
  refine bw_aload_n hx hb d_Bt_wayOf_9 rfl (lv_at hl 0 rfl) ?_
  obtain ⟨a11, ea11, hq⟩ := hq
  obtain ⟨t12, hq⟩ := hq
  refine bw_getR hx hb ht in_Wy hown hK hW ea11 t12 (by decide) rfl 0 (by decide) rfl (ht _ m_224) (fun _ h => h) d_Bt_wayOf_10 ?_
  refine bw_ifnull (tgt := 18) hx hb d_Bt_wayOf_13 (by decide) (fun c13 => ?_) (fun c13 => ?_)
  · have hq := hq.1 c13
    refine bw_aload_n hx hb d_Bt_wayOf_18 rfl (lv_at hl 1 rfl) ?_
    obtain ⟨t14, hq⟩ := hq
    refine bw_getR hx hb ht in_Bt hown hK hW rfl t14 (by decide) rfl 7 (by decide) rfl (ht _ m_253) (fun _ h => h) d_Bt_wayOf_19 ?_
    obtain ⟨a15, ea15, hq⟩ := hq
    obtain ⟨t16, hq⟩ := hq
    refine bw_getR hx hb ht in_Wy hown hK hW ea15 t16 (by decide) rfl 0 (by decide) rfl (ht _ m_224) (fun _ h => h) d_Bt_wayOf_22 ?_
    refine bw_ifnull (tgt := 35) hx hb d_Bt_wayOf_25 (by decide) (fun c17 => ?_) (fun c17 => ?_)
    · have hq := hq.1 c17
      refine bw_null hx hb d_Bt_wayOf_35 ?_
      exact k_Bt_wayOf_36 C  _ _ _ _ _ hq _ _ _ _ _ hW (lv_sub hl [1, 2, 0] rfl) hc hs
    · have hq := hq.2 c17
      refine bw_aload_n hx hb d_Bt_wayOf_28 rfl (lv_at hl 1 rfl) ?_
      refine bw_getR hx hb ht in_Bt hown hK hW rfl t14 (by decide) rfl 7 (by decide) rfl (ht _ m_253) (fun _ h => h) d_Bt_wayOf_29 ?_
      refine lv_goto (tgt := 36) hx hb d_Bt_wayOf_32 (by decide) ?_
      exact k_Bt_wayOf_36 C  _ _ _ _ _ hq _ _ _ _ _ hW (lv_sub hl [1, 2, 0] rfl) hc hs
  · have hq := hq.2 c13
    refine bw_aload_n hx hb d_Bt_wayOf_16 rfl (lv_at hl 0 rfl) ?_
    exact bw_aret C (Or.inl ⟨_, rfl⟩) hW ⟨_, rfl, hq⟩ d_Bt_wayOf_17 hc hs
theorem ci_Bt_wayOf : CI n_Bt_wayOf b_Bt_wayOf 3 (some (.object "BeltRows$Way")) 1 := ⟨m_579, m_11, by decide, by decide, by decide +kernel⟩
theorem c_Bt_wayOf {l : Launch} {D : va_G} {AC : Nat → ClassId} {e0 mi : Nat} {Q : Option Nat → Wd → Prop} (hl0 : l.stackTraces = false) (x0 : Nat) (x1 : Option Nat) (w : Wd) (hq : wp_Bt_wayOf e0 mi x0 x1 w Q) : Ct l D AC e0 mi n_Bt_wayOf (wy n_Bt_wayOf b_Bt_wayOf 3 (some (.object "BeltRows$Way"))) 1 21 [va_rf (some x0), va_rf x1] w 0 0 (fun v w9 => ∃ r9 : Option Nat, v = some (va_rf r9) ∧ Q r9 w9) (fun _ _ => False) :=
  Ct.of hl0 (by decide) (by simp [lg_sl, bw_cat, cat_i, cat_j]) (fun p e s m args below meth c A ls C hW hl => k_Bt_wayOf_0 C x0 x1 w hq s.heap [] 0 0 ls hW (by simpa [lv_args, bw_cat, cat_i, cat_j] using hl) (Nat.le_refl _) (Nat.le_refl _))
def wb_Bt_itemAtEnd_29 (e0 mi : Nat) (Q : Option Nat → Wd → Prop) (x0 : Nat) (z0 : Option Nat) (w : Wd) : Prop :=
  Q z0 w
set_option maxHeartbeats 4000000 in
set_option maxRecDepth 100000 in
theorem k_Bt_itemAtEnd_29 {p : Program} {l : Launch} {e : Env} {s : State} {m : MethodId} {args : Array Value} {below : List Frame} {meth : Method} {c : Code} {D : va_G} {AC : Nat → ClassId} {e0 mi : Nat} {A : Nat → Prop} {mc ms : Nat} {Q : Option Nat → Wd → Prop} (C : Cx p l s m args meth c D AC e0 mi A n_Bt_itemAtEnd b_Bt_itemAtEnd 1 (some (.object "BeltRows$Item"))) (x0 : Nat) (z0 : Option Nat) (w : Wd) (hq : wb_Bt_itemAtEnd_29 e0 mi Q x0 z0 w) : ∀ (H : Heap) (locs : List Loc) (cells slots : Nat) (ls : Array Slot), HW D cls8 FTc AC A s.heap H locs w → lv_has ls 1 [(0, va_rf (some x0))] → cells ≤ mc → slots ≤ ms → W p l e { frames := 0, cells := mc, slots := ms, locals := 0 } s m args below meth c H locs cells slots (vx_MQ below (QQ D AC A (fun v w9 => ∃ r9 : Option Nat, v = some (va_rf r9) ∧ Q r9 w9)) (XX D AC A (fun _ _ => False)) args s mc ms A) (F0 m 29 ls [va_rf z0]) := by
  obtain ⟨hl0, hx, hb, hr, ht, hown, hlocks, hnm, hml, hex, hK, hA, hZ, hV⟩ := id C
  intro H locs cells slots ls hW hl hc hs
  unfold wb_Bt_itemAtEnd_29 at hq
  exact bw_aret C (Or.inl ⟨_, rfl⟩) hW ⟨_, rfl, hq⟩ d_Bt_itemAtEnd_29 hc hs
def wb_Bt_itemAtEnd_28 (e0 mi : Nat) (Q : Option Nat → Wd → Prop) (x0 : Nat) (w : Wd) : Prop :=
  wb_Bt_itemAtEnd_29 e0 mi Q x0 none w
set_option maxHeartbeats 4000000 in
set_option maxRecDepth 100000 in
theorem k_Bt_itemAtEnd_28 {p : Program} {l : Launch} {e : Env} {s : State} {m : MethodId} {args : Array Value} {below : List Frame} {meth : Method} {c : Code} {D : va_G} {AC : Nat → ClassId} {e0 mi : Nat} {A : Nat → Prop} {mc ms : Nat} {Q : Option Nat → Wd → Prop} (C : Cx p l s m args meth c D AC e0 mi A n_Bt_itemAtEnd b_Bt_itemAtEnd 1 (some (.object "BeltRows$Item"))) (x0 : Nat) (w : Wd) (hq : wb_Bt_itemAtEnd_28 e0 mi Q x0 w) : ∀ (H : Heap) (locs : List Loc) (cells slots : Nat) (ls : Array Slot), HW D cls8 FTc AC A s.heap H locs w → lv_has ls 1 [(0, va_rf (some x0))] → cells ≤ mc → slots ≤ ms → W p l e { frames := 0, cells := mc, slots := ms, locals := 0 } s m args below meth c H locs cells slots (vx_MQ below (QQ D AC A (fun v w9 => ∃ r9 : Option Nat, v = some (va_rf r9) ∧ Q r9 w9)) (XX D AC A (fun _ _ => False)) args s mc ms A) (F0 m 28 ls []) := by
  obtain ⟨hl0, hx, hb, hr, ht, hown, hlocks, hnm, hml, hex, hK, hA, hZ, hV⟩ := id C
  intro H locs cells slots ls hW hl hc hs
  unfold wb_Bt_itemAtEnd_28 at hq
  refine bw_null hx hb d_Bt_itemAtEnd_28 ?_
  exact k_Bt_itemAtEnd_29 C  _ _ _ hq _ _ _ _ _ hW (lv_sub hl [0] rfl) hc hs
def wp_Bt_itemAtEnd (e0 mi : Nat) (x0 : Nat) (w : Wd) (Q : Option Nat → Wd → Prop) : Prop :=
  bw_is w x0 0 ∧ (((wR w x0 4) = none → (wb_Bt_itemAtEnd_28 e0 mi Q x0 w)) ∧ (¬ (wR w x0 4) = none → (∃ a3 : Nat, (wR w x0 4) = some a3 ∧ (bw_is w a3 2 ∧ ((¬ (wI w a3 7) = (wI w x0 1) → (wb_Bt_itemAtEnd_28 e0 mi Q x0 w)) ∧ ((wI w a3 7) = (wI w x0 1) → (wb_Bt_itemAtEnd_29 e0 mi Q x0 (wR w x0 4) w)))))))
set_option maxHeartbeats 4000000 in
set_option maxRecDepth 100000 in
theorem k_Bt_itemAtEnd_0 {p : Program} {l : Launch} {e : Env} {s : State} {m : MethodId} {args : Array Value} {below : List Frame} {meth : Method} {c : Code} {D : va_G} {AC : Nat → ClassId} {e0 mi : Nat} {A : Nat → Prop} {mc ms : Nat} {Q : Option Nat → Wd → Prop} (C : Cx p l s m args meth c D AC e0 mi A n_Bt_itemAtEnd b_Bt_itemAtEnd 1 (some (.object "BeltRows$Item"))) (x0 : Nat) (w : Wd) (hq : wp_Bt_itemAtEnd e0 mi x0 w Q) : ∀ (H : Heap) (locs : List Loc) (cells slots : Nat) (ls : Array Slot), HW D cls8 FTc AC A s.heap H locs w → lv_has ls 1 [(0, va_rf (some x0))] → cells ≤ mc → slots ≤ ms → W p l e { frames := 0, cells := mc, slots := ms, locals := 0 } s m args below meth c H locs cells slots (vx_MQ below (QQ D AC A (fun v w9 => ∃ r9 : Option Nat, v = some (va_rf r9) ∧ Q r9 w9)) (XX D AC A (fun _ _ => False)) args s mc ms A) (F0 m 0 ls []) := by
  obtain ⟨hl0, hx, hb, hr, ht, hown, hlocks, hnm, hml, hex, hK, hA, hZ, hV⟩ := id C
  intro H locs cells slots ls hW hl hc hs
  unfold wp_Bt_itemAtEnd at hq
  refine bw_aload_n hx hb d_Bt_itemAtEnd_0 rfl (lv_at hl 0 rfl) ?_
  obtain ⟨t1, hq⟩ := hq
  refine bw_getR hx hb ht in_Bt hown hK hW rfl t1 (by decide) rfl 4 (by decide) rfl (ht _ m_247) (fun _ h => h) d_Bt_itemAtEnd_1 ?_
  refine bw_ifnull (tgt := 28) hx hb d_Bt_itemAtEnd_4 (by decide) (fun c2 => ?_) (fun c2 => ?_)
  · have hq := hq.1 c2
    exact k_Bt_itemAtEnd_28 C  _ _ hq _ _ _ _ _ hW (lv_sub hl [0] rfl) hc hs
  · have hq := hq.2 c2
    refine bw_aload_n hx hb d_Bt_itemAtEnd_7 rfl (lv_at hl 0 rfl) ?_
    refine bw_getR hx hb ht in_Bt hown hK hW rfl t1 (by decide) rfl 4 (by decide) rfl (ht _ m_247) (fun _ h => h) d_Bt_itemAtEnd_8 ?_
    obtain ⟨a3, ea3, hq⟩ := hq
    obtain ⟨t4, hq⟩ := hq
    refine bw_getI hx hb ht in_It hown hK hW ea3 t4 (by decide) rfl 7 (by decide) rfl (ht _ m_459) (fun _ h => h) d_Bt_itemAtEnd_11 ?_
    refine bw_aload_n hx hb d_Bt_itemAtEnd_14 rfl (lv_at hl 0 rfl) ?_
    refine bw_getI hx hb ht in_Bt hown hK hW rfl t1 (by decide) rfl 1 (by decide) rfl (ht _ m_239) (fun _ h => h) d_Bt_itemAtEnd_15 ?_
    refine lv_icmp_ne (tgt := 28) hx hb d_Bt_itemAtEnd_18 (by decide) (fun c5 => ?_) (fun c5 => ?_)
    · have hq := hq.1 c5
      exact k_Bt_itemAtEnd_28 C  _ _ hq _ _ _ _ _ hW (lv_sub hl [0] rfl) hc hs
    · have hq := hq.2 c5
      refine bw_aload_n hx hb d_Bt_itemAtEnd_21 rfl (lv_at hl 0 rfl) ?_
      refine bw_getR hx hb ht in_Bt hown hK hW rfl t1 (by decide) rfl 4 (by decide) rfl (ht _ m_247) (fun _ h => h) d_Bt_itemAtEnd_22 ?_
      refine lv_goto (tgt := 29) hx hb d_Bt_itemAtEnd_25 (by decide) ?_
      exact k_Bt_itemAtEnd_29 C  _ _ _ hq _ _ _ _ _ hW (lv_sub hl [0] rfl) hc hs
theorem ci_Bt_itemAtEnd : CI n_Bt_itemAtEnd b_Bt_itemAtEnd 1 (some (.object "BeltRows$Item")) 0 := ⟨m_575, m_11, by decide, by decide, by decide +kernel⟩
theorem c_Bt_itemAtEnd {l : Launch} {D : va_G} {AC : Nat → ClassId} {e0 mi : Nat} {Q : Option Nat → Wd → Prop} (hl0 : l.stackTraces = false) (x0 : Nat) (w : Wd) (hq : wp_Bt_itemAtEnd e0 mi x0 w Q) : Ct l D AC e0 mi n_Bt_itemAtEnd (wy n_Bt_itemAtEnd b_Bt_itemAtEnd 1 (some (.object "BeltRows$Item"))) 0 0 [va_rf (some x0)] w 0 0 (fun v w9 => ∃ r9 : Option Nat, v = some (va_rf r9) ∧ Q r9 w9) (fun _ _ => False) :=
  Ct.of hl0 (by decide) (by simp [lg_sl, bw_cat, cat_i, cat_j]) (fun p e s m args below meth c A ls C hW hl => k_Bt_itemAtEnd_0 C x0 w hq s.heap [] 0 0 ls hW (by simpa [lv_args, bw_cat, cat_i, cat_j] using hl) (Nat.le_refl _) (Nat.le_refl _))
def wb_Bt_wayInUse_25 (e0 mi : Nat) (Q : Option Nat → Wd → Prop) (x0 : Nat) (x1 : Option Nat) (z0 : Option Nat) (w : Wd) : Prop :=
  Q z0 w
set_option maxHeartbeats 4000000 in
set_option maxRecDepth 100000 in
theorem k_Bt_wayInUse_25 {p : Program} {l : Launch} {e : Env} {s : State} {m : MethodId} {args : Array Value} {below : List Frame} {meth : Method} {c : Code} {D : va_G} {AC : Nat → ClassId} {e0 mi : Nat} {A : Nat → Prop} {mc ms : Nat} {Q : Option Nat → Wd → Prop} (C : Cx p l s m args meth c D AC e0 mi A n_Bt_wayInUse b_Bt_wayInUse 2 (some (.object "BeltRows$Way"))) (x0 : Nat) (x1 : Option Nat) (z0 : Option Nat) (w : Wd) (hq : wb_Bt_wayInUse_25 e0 mi Q x0 x1 z0 w) : ∀ (H : Heap) (locs : List Loc) (cells slots : Nat) (ls : Array Slot), HW D cls8 FTc AC A s.heap H locs w → lv_has ls 2 [(0, va_rf (some x0)), (1, va_rf x1)] → cells ≤ mc → slots ≤ ms → W p l e { frames := 2, cells := mc, slots := ms, locals := 43 } s m args below meth c H locs cells slots (vx_MQ below (QQ D AC A (fun v w9 => ∃ r9 : Option Nat, v = some (va_rf r9) ∧ Q r9 w9)) (XX D AC A (fun _ _ => False)) args s mc ms A) (F0 m 25 ls [va_rf z0]) := by
  obtain ⟨hl0, hx, hb, hr, ht, hown, hlocks, hnm, hml, hex, hK, hA, hZ, hV⟩ := id C
  intro H locs cells slots ls hW hl hc hs
  unfold wb_Bt_wayInUse_25 at hq
  exact bw_aret C (Or.inl ⟨_, rfl⟩) hW ⟨_, rfl, hq⟩ d_Bt_wayInUse_25 hc hs
def wb_Bt_wayInUse_24 (e0 mi : Nat) (Q : Option Nat → Wd → Prop) (x0 : Nat) (x1 : Option Nat) (w : Wd) : Prop :=
  wb_Bt_wayInUse_25 e0 mi Q x0 x1 none w
set_option maxHeartbeats 4000000 in
set_option maxRecDepth 100000 in
theorem k_Bt_wayInUse_24 {p : Program} {l : Launch} {e : Env} {s : State} {m : MethodId} {args : Array Value} {below : List Frame} {meth : Method} {c : Code} {D : va_G} {AC : Nat → ClassId} {e0 mi : Nat} {A : Nat → Prop} {mc ms : Nat} {Q : Option Nat → Wd → Prop} (C : Cx p l s m args meth c D AC e0 mi A n_Bt_wayInUse b_Bt_wayInUse 2 (some (.object "BeltRows$Way"))) (x0 : Nat) (x1 : Option Nat) (w : Wd) (hq : wb_Bt_wayInUse_24 e0 mi Q x0 x1 w) : ∀ (H : Heap) (locs : List Loc) (cells slots : Nat) (ls : Array Slot), HW D cls8 FTc AC A s.heap H locs w → lv_has ls 2 [(0, va_rf (some x0)), (1, va_rf x1)] → cells ≤ mc → slots ≤ ms → W p l e { frames := 2, cells := mc, slots := ms, locals := 43 } s m args below meth c H locs cells slots (vx_MQ below (QQ D AC A (fun v w9 => ∃ r9 : Option Nat, v = some (va_rf r9) ∧ Q r9 w9)) (XX D AC A (fun _ _ => False)) args s mc ms A) (F0 m 24 ls []) := by
  obtain ⟨hl0, hx, hb, hr, ht, hown, hlocks, hnm, hml, hex, hK, hA, hZ, hV⟩ := id C
  intro H locs cells slots ls hW hl hc hs
  unfold wb_Bt_wayInUse_24 at hq
  refine bw_null hx hb d_Bt_wayInUse_24 ?_
  exact k_Bt_wayInUse_25 C  _ _ _ _ hq _ _ _ _ _ hW (lv_sub hl [0, 1] rfl) hc hs
def wp_Bt_wayInUse (e0 mi : Nat) (x0 : Nat) (w : Wd) (Q : Option Nat → Wd → Prop) : Prop :=
  bw_is w x0 0 ∧ (wp_Bt_itemAtEnd e0 mi x0 w (fun r8 w3 => bw_is w3 x0 0 ∧ (((wI w3 x0 3) = 0 → (wb_Bt_wayInUse_24 e0 mi Q x0 r8 w3)) ∧ (¬ (wI w3 x0 3) = 0 → ((r8 = none → (wb_Bt_wayInUse_24 e0 mi Q x0 r8 w3)) ∧ (¬ r8 = none → (wp_Bt_wayOf e0 mi x0 r8 w3 (fun r18 w13 => wb_Bt_wayInUse_25 e0 mi Q x0 r8 r18 w13))))))))
set_option maxHeartbeats 4000000 in
set_option maxRecDepth 100000 in
theorem k_Bt_wayInUse_0 {p : Program} {l : Launch} {e : Env} {s : State} {m : MethodId} {args : Array Value} {below : List Frame} {meth : Method} {c : Code} {D : va_G} {AC : Nat → ClassId} {e0 mi : Nat} {A : Nat → Prop} {mc ms : Nat} {Q : Option Nat → Wd → Prop} (C : Cx p l s m args meth c D AC e0 mi A n_Bt_wayInUse b_Bt_wayInUse 2 (some (.object "BeltRows$Way"))) (x0 : Nat) (w : Wd) (hq : wp_Bt_wayInUse e0 mi x0 w Q) : ∀ (H : Heap) (locs : List Loc) (cells slots : Nat) (ls : Array Slot), HW D cls8 FTc AC A s.heap H locs w → lv_has ls 2 [(0, va_rf (some x0))] → cells ≤ mc → slots ≤ ms → W p l e { frames := 2, cells := mc, slots := ms, locals := 43 } s m args below meth c H locs cells slots (vx_MQ below (QQ D AC A (fun v w9 => ∃ r9 : Option Nat, v = some (va_rf r9) ∧ Q r9 w9)) (XX D AC A (fun _ _ => False)) args s mc ms A) (F0 m 0 ls []) := by
  obtain ⟨hl0, hx, hb, hr, ht, hown, hlocks, hnm, hml, hex, hK, hA, hZ, hV⟩ := id C
  intro H locs cells slots ls hW hl hc hs
  unfold wp_Bt_wayInUse at hq
  refine bw_aload_n hx hb d_Bt_wayInUse_0 rfl (lv_at hl 0 rfl) ?_
  obtain ⟨t1, hq⟩ := hq
  refine bw_callV (As := []) (rest := []) C hW ci_Bt_itemAtEnd m_623 m_573 m_574 d_Bt_wayInUse_1 rfl t1 (by decide) rfl rfl rfl hl.1 (by decide) ⟨Nat.le_of_ble_eq_true rfl, Nat.le_of_ble_eq_true rfl⟩ ⟨hc, hs⟩ (c_Bt_itemAtEnd hl0 _ _ hq) (fun _ _ _ _ _ _ h => h.elim) (fun v2 w3 H locs hv hW => ?_)
  obtain ⟨r8, rfl, hq⟩ := hv
  refine W.eq (g2 := F0 m 4 ls [va_rf r8]) rfl ?_
  refine bw_astore_n (i := 1) (lv' := [(1, va_rf r8), (0, va_rf (some x0))]) hx hb d_Bt_wayInUse_4 rfl hl (by decide) (by simp [bw_cat, cat_i, cat_j]) (fun ls hl => ?_)
  refine bw_aload_n hx hb d_Bt_wayInUse_5 rfl (lv_at hl 1 rfl) ?_
  obtain ⟨t9, hq⟩ := hq
  refine bw_getI hx hb ht in_Bt hown hK hW rfl t9 (by decide) rfl 3 (by decide) rfl (ht _ m_245) (fun _ h => h) d_Bt_wayInUse_6 ?_
  refine lv_if_eq (tgt := 24) hx hb d_Bt_wayInUse_9 (by decide) (fun c10 => ?_) (fun c10 => ?_)
  · have hq := hq.1 c10
    exact k_Bt_wayInUse_24 C  _ _ _ hq _ _ _ _ _ hW (lv_sub hl [1, 0] rfl) hc hs
  · have hq := hq.2 c10
    refine bw_aload_n hx hb d_Bt_wayInUse_12 rfl (lv_at hl 0 rfl) ?_
    refine bw_ifnull (tgt := 24) hx hb d_Bt_wayInUse_13 (by decide) (fun c11 => ?_) (fun c11 => ?_)
    · have hq := hq.1 c11
      exact k_Bt_wayInUse_24 C  _ _ _ hq _ _ _ _ _ hW (lv_sub hl [1, 0] rfl) hc hs
    · have hq := hq.2 c11
      refine bw_aload_n hx hb d_Bt_wayInUse_16 rfl (lv_at hl 1 rfl) ?_
      refine bw_aload_n hx hb d_Bt_wayInUse_17 rfl (lv_at hl 0 rfl) ?_
      refine bw_callV (As := [va_rf r8]) (rest := []) C hW ci_Bt_wayOf m_624 m_577 m_578 d_Bt_wayInUse_18 rfl t9 (by decide) rfl rfl rfl hl.1 (by decide) ⟨Nat.le_of_ble_eq_true rfl, Nat.le_of_ble_eq_true rfl⟩ ⟨hc, hs⟩ (c_Bt_wayOf hl0 _ _ _ hq) (fun _ _ _ _ _ _ h => h.elim) (fun v12 w13 H locs hv hW => ?_)
      obtain ⟨r18, rfl, hq⟩ := hv
      refine W.eq (g2 := F0 m 21 ls [va_rf r18]) rfl ?_
      refine lv_goto (tgt := 25) hx hb d_Bt_wayInUse_21 (by decide) ?_
      exact k_Bt_wayInUse_25 C  _ _ _ _ hq _ _ _ _ _ hW (lv_sub hl [1, 0] rfl) hc hs
theorem ci_Bt_wayInUse : CI n_Bt_wayInUse b_Bt_wayInUse 2 (some (.object "BeltRows$Way")) 0 := ⟨m_622, m_11, by decide, by decide, by decide +kernel⟩
theorem c_Bt_wayInUse {l : Launch} {D : va_G} {AC : Nat → ClassId} {e0 mi : Nat} {Q : Option Nat → Wd → Prop} (hl0 : l.stackTraces = false) (x0 : Nat) (w : Wd) (hq : wp_Bt_wayInUse e0 mi x0 w Q) : Ct l D AC e0 mi n_Bt_wayInUse (wy n_Bt_wayInUse b_Bt_wayInUse 2 (some (.object "BeltRows$Way"))) 2 43 [va_rf (some x0)] w 0 0 (fun v w9 => ∃ r9 : Option Nat, v = some (va_rf r9) ∧ Q r9 w9) (fun _ _ => False) :=
  Ct.of hl0 (by decide) (by simp [lg_sl, bw_cat, cat_i, cat_j]) (fun p e s m args below meth c A ls C hW hl => k_Bt_wayInUse_0 C x0 w hq s.heap [] 0 0 ls hW (by simpa [lv_args, bw_cat, cat_i, cat_j] using hl) (Nat.le_refl _) (Nat.le_refl _))
def wb_Bt_takeOn_32 (e0 mi : Nat) (Q : Wd → Prop) (x0 : Nat) (x1 : Option Nat) (w : Wd) : Prop :=
  bw_is w x0 0 ∧ (Q (sI (sR w x0 5 x1) x0 6 ((wI (sR w x0 5 x1) x0 6) + (1 : Int32))))
set_option maxHeartbeats 4000000 in
set_option maxRecDepth 100000 in
theorem k_Bt_takeOn_32 {p : Program} {l : Launch} {e : Env} {s : State} {m : MethodId} {args : Array Value} {below : List Frame} {meth : Method} {c : Code} {D : va_G} {AC : Nat → ClassId} {e0 mi : Nat} {A : Nat → Prop} {mc ms : Nat} {Q : Wd → Prop} (C : Cx p l s m args meth c D AC e0 mi A n_Bt_takeOn b_Bt_takeOn 2 none) (x0 : Nat) (x1 : Option Nat) (w : Wd) (hq : wb_Bt_takeOn_32 e0 mi Q x0 x1 w) : ∀ (H : Heap) (locs : List Loc) (cells slots : Nat) (ls : Array Slot), HW D cls8 FTc AC A s.heap H locs w → lv_has ls 2 [(0, va_rf (some x0)), (1, va_rf x1)] → cells ≤ mc → slots ≤ ms → W p l e { frames := 2, cells := mc, slots := ms, locals := 42 } s m args below meth c H locs cells slots (vx_MQ below (QQ D AC A (fun v w9 => v = none ∧ Q w9)) (XX D AC A (fun _ _ => False)) args s mc ms A) (F0 m 32 ls []) := by
  obtain ⟨hl0, hx, hb, hr, ht, hown, hlocks, hnm, hml, hex, hK, hA, hZ, hV⟩ := id C
  intro H locs cells slots ls hW hl hc hs
  unfold wb_Bt_takeOn_32 at hq
  refine bw_aload_n hx hb d_Bt_takeOn_32 rfl (lv_at hl 0 rfl) ?_
  refine bw_aload_n hx hb d_Bt_takeOn_33 rfl (lv_at hl 1 rfl) ?_
  obtain ⟨t1, hq⟩ := hq
  refine bw_putR hx hb ht in_Bt y_Bt yk_Bt nm_Bt hown hK hW rfl t1 (by decide) rfl 5 (by decide) rfl (ht _ m_249) (fun _ h => h) (Or.inl rfl) (bw_nr _ _) (bw_fr _ _) d_Bt_takeOn_34 (fun H locs hW => ?_)
  refine bw_aload_n hx hb d_Bt_takeOn_37 rfl (lv_at hl 0 rfl) ?_
  refine lv_dup hx hb d_Bt_takeOn_38 (bw_cat _) ?_
  refine bw_getI hx hb ht in_Bt hown hK hW rfl t1 (by decide) rfl 6 (by decide) rfl (ht _ m_251) (fun _ h => h) d_Bt_takeOn_39 ?_
  refine lv_iconst (v := 1) hx hb d_Bt_takeOn_42 (by decide) ?_
  refine lv_iadd hx hb d_Bt_takeOn_43 ?_
  refine bw_putI hx hb ht in_Bt y_Bt yk_Bt nm_Bt hown hK hW rfl t1 (by decide) rfl 6 (by decide) rfl (ht _ m_251) (fun _ h => h) (Or.inl rfl) rfl rfl d_Bt_takeOn_44 (fun H locs hW => ?_)
  exact bw_vret C hW ⟨rfl, hq⟩ d_Bt_takeOn_47 hc hs
def wp_Bt_takeOn (e0 mi : Nat) (x0 : Nat) (x1 : Option Nat) (w : Wd) (Q : Wd → Prop) : Prop :=
  bw_is w x0 0 ∧ (∃ a2 : Nat, x1 = some a2 ∧ (bw_is w a2 2 ∧ (wp_It_startOn e0 mi a2 (some x0) (wR w x0 5) w (fun w5 => bw_is w5 x0 0 ∧ ((¬ (wR w5 x0 5) = none → (∃ a13 : Nat, (wR w5 x0 5) = some a13 ∧ (bw_is w5 a13 2 ∧ (wb_Bt_takeOn_32 e0 mi Q x0 x1 (sR w5 a13 5 x1))))) ∧ ((wR w5 x0 5) = none → (wb_Bt_takeOn_32 e0 mi Q x0 x1 (sR w5 x0 4 x1))))))))
set_option maxHeartbeats 4000000 in
set_option maxRecDepth 100000 in
theorem k_Bt_takeOn_0 {p : Program} {l : Launch} {e : Env} {s : State} {m : MethodId} {args : Array Value} {below : List Frame} {meth : Method} {c : Code} {D : va_G} {AC : Nat → ClassId} {e0 mi : Nat} {A : Nat → Prop} {mc ms : Nat} {Q : Wd → Prop} (C : Cx p l s m args meth c D AC e0 mi A n_Bt_takeOn b_Bt_takeOn 2 none) (x0 : Nat) (x1 : Option Nat) (w : Wd) (hq : wp_Bt_takeOn e0 mi x0 x1 w Q) : ∀ (H : Heap) (locs : List Loc) (cells slots : Nat) (ls : Array Slot), HW D cls8 FTc AC A s.heap H locs w → lv_has ls 2 [(0, va_rf (some x0)), (1, va_rf x1)] → cells ≤ mc → slots ≤ ms → W p l e { frames := 2, cells := mc, slots := ms, locals := 42 } s m args below meth c H locs cells slots (vx_MQ below (QQ D AC A (fun v w9 => v = none ∧ Q w9)) (XX D AC A (fun _ _ => False)) args s mc ms A) (F0 m 0 ls []) := by
  obtain ⟨hl0, hx, hb, hr, ht, hown, hlocks, hnm, hml, hex, hK, hA, hZ, hV⟩ := id C
  intro H locs cells slots ls hW hl hc hs
  unfold wp_Bt_takeOn at hq
  refine bw_aload_n hx hb d_Bt_takeOn_0 rfl (lv_at hl 1 rfl) ?_
  refine bw_aload_n hx hb d_Bt_takeOn_1 rfl (lv_at hl 0 rfl) ?_
  refine bw_aload_n hx hb d_Bt_takeOn_2 rfl (lv_at hl 0 rfl) ?_
  obtain ⟨t1, hq⟩ := hq
  refine bw_getR hx hb ht in_Bt hown hK hW rfl t1 (by decide) rfl 5 (by decide) rfl (ht _ m_249) (fun _ h => h) d_Bt_takeOn_3 ?_
  obtain ⟨a2, ea2, hq⟩ := hq
  obtain ⟨t3, hq⟩ := hq
  refine bw_callV (As := [va_rf (some x0), va_rf (wR w x0 5)]) (rest := []) C hW ci_It_startOn m_495 m_496 m_497 d_Bt_takeOn_6 ea2 t3 (by decide) rfl rfl rfl hl.1 (by decide) ⟨Nat.le_of_ble_eq_true rfl, Nat.le_of_ble_eq_true rfl⟩ ⟨hc, hs⟩ (c_It_startOn hl0 _ _ _ _ hq) (fun _ _ _ _ _ _ h => h.elim) (fun v4 w5 H locs hv hW => ?_)
  obtain ⟨rfl, hq⟩ := hv
  refine W.eq (g2 := F0 m 9 ls []) rfl ?_
  refine bw_aload_n hx hb d_Bt_takeOn_9 rfl (lv_at hl 0 rfl) ?_
  obtain ⟨t11, hq⟩ := hq
  refine bw_getR hx hb ht in_Bt hown hK hW rfl t11 (by decide) rfl 5 (by decide) rfl (ht _ m_249) (fun _ h => h) d_Bt_takeOn_10 ?_
  refine bw_ifnonnull (tgt := 24) hx hb d_Bt_takeOn_13 (by decide) (fun c12 => ?_) (fun c12 => ?_)
  · have hq := hq.1 c12
    refine bw_aload_n hx hb d_Bt_takeOn_24 rfl (lv_at hl 0 rfl) ?_
    refine bw_getR hx hb ht in_Bt hown hK hW rfl t11 (by decide) rfl 5 (by decide) rfl (ht _ m_249) (fun _ h => h) d_Bt_takeOn_25 ?_
    refine bw_aload_n hx hb d_Bt_takeOn_28 rfl (lv_at hl 1 rfl) ?_
    obtain ⟨a13, ea13, hq⟩ := hq
    obtain ⟨t14, hq⟩ := hq
    refine bw_putR hx hb ht in_It y_It yk_It nm_It hown hK hW ea13 t14 (by decide) rfl 5 (by decide) rfl (ht _ m_454) (fun _ h => h) (Or.inl rfl) (bw_nr _ _) (bw_fr _ _) d_Bt_takeOn_29 (fun H locs hW => ?_)
    exact k_Bt_takeOn_32 C  _ _ _ hq _ _ _ _ _ hW (lv_sub hl [0, 1] rfl) hc hs
  · have hq := hq.2 c12
    refine bw_aload_n hx hb d_Bt_takeOn_16 rfl (lv_at hl 0 rfl) ?_
    refine bw_aload_n hx hb d_Bt_takeOn_17 rfl (lv_at hl 1 rfl) ?_
    refine bw_putR hx hb ht in_Bt y_Bt yk_Bt nm_Bt hown hK hW rfl t11 (by decide) rfl 4 (by decide) rfl (ht _ m_247) (fun _ h => h) (Or.inl rfl) (bw_nr _ _) (bw_fr _ _) d_Bt_takeOn_18 (fun H locs hW => ?_)
    refine lv_goto (tgt := 32) hx hb d_Bt_takeOn_21 (by decide) ?_
    exact k_Bt_takeOn_32 C  _ _ _ hq _ _ _ _ _ hW (lv_sub hl [0, 1] rfl) hc hs
theorem ci_Bt_takeOn : CI n_Bt_takeOn b_Bt_takeOn 2 none 1 := ⟨m_494, m_11, by decide, by decide, by decide +kernel⟩
theorem c_Bt_takeOn {l : Launch} {D : va_G} {AC : Nat → ClassId} {e0 mi : Nat} {Q : Wd → Prop} (hl0 : l.stackTraces = false) (x0 : Nat) (x1 : Option Nat) (w : Wd) (hq : wp_Bt_takeOn e0 mi x0 x1 w Q) : Ct l D AC e0 mi n_Bt_takeOn (wy n_Bt_takeOn b_Bt_takeOn 2 none) 2 42 [va_rf (some x0), va_rf x1] w 0 0 (fun v w9 => v = none ∧ Q w9) (fun _ _ => False) :=
  Ct.of hl0 (by decide) (by simp [lg_sl, bw_cat, cat_i, cat_j]) (fun p e s m args below meth c A ls C hW hl => k_Bt_takeOn_0 C x0 x1 w hq s.heap [] 0 0 ls hW (by simpa [lv_args, bw_cat, cat_i, cat_j] using hl) (Nat.le_refl _) (Nat.le_refl _))
def wb_Bt_letGo_58 (e0 mi : Nat) (Q : Wd → Prop) (x0 : Nat) (x1 : Option Nat) (w : Wd) : Prop :=
  ∃ a1 : Nat, x1 = some a1 ∧ (bw_is w a1 2 ∧ (bw_is (sR (sR w a1 4 none) a1 5 none) x0 0 ∧ (Q (sI (sR (sR w a1 4 none) a1 5 none) x0 6 ((wI (sR (sR w a1 4 none) a1 5 none) x0 6) - (1 : Int32))))))
set_option maxHeartbeats 4000000 in
set_option maxRecDepth 100000 in
theorem k_Bt_letGo_58 {p : Program} {l : Launch} {e : Env} {s : State} {m : MethodId} {args : Array Value} {below : List Frame} {meth : Method} {c : Code} {D : va_G} {AC : Nat → ClassId} {e0 mi : Nat} {A : Nat → Prop} {mc ms : Nat} {Q : Wd → Prop} (C : Cx p l s m args meth c D AC e0 mi A n_Bt_letGo b_Bt_letGo 2 none) (x0 : Nat) (x1 : Option Nat) (w : Wd) (hq : wb_Bt_letGo_58 e0 mi Q x0 x1 w) : ∀ (H : Heap) (locs : List Loc) (cells slots : Nat) (ls : Array Slot), HW D cls8 FTc AC A s.heap H locs w → lv_has ls 2 [(0, va_rf (some x0)), (1, va_rf x1)] → cells ≤ mc → slots ≤ ms → W p l e { frames := 0, cells := mc, slots := ms, locals := 0 } s m args below meth c H locs cells slots (vx_MQ below (QQ D AC A (fun v w9 => v = none ∧ Q w9)) (XX D AC A (fun _ _ => False)) args s mc ms A) (F0 m 58 ls []) := by
  obtain ⟨hl0, hx, hb, hr, ht, hown, hlocks, hnm, hml, hex, hK, hA, hZ, hV⟩ := id C
  intro H locs cells slots ls hW hl hc hs
  unfold wb_Bt_letGo_58 at hq
  refine bw_aload_n hx hb d_Bt_letGo_58 rfl (lv_at hl 1 rfl) ?_
  refine bw_null hx hb d_Bt_letGo_59 ?_
  obtain ⟨a1, ea1, hq⟩ := hq
  obtain ⟨t2, hq⟩ := hq
  refine bw_putR hx hb ht in_It y_It yk_It nm_It hown hK hW ea1 t2 (by decide) rfl 4 (by decide) rfl (ht _ m_452) (fun _ h => h) (Or.inl rfl) (bw_nr _ _) (bw_fr _ _) d_Bt_letGo_60 (fun H locs hW => ?_)
  refine bw_aload_n hx hb d_Bt_letGo_63 rfl (lv_at hl 1 rfl) ?_
  refine bw_null hx hb d_Bt_letGo_64 ?_
  refine bw_putR hx hb ht in_It y_It yk_It nm_It hown hK hW ea1 t2 (by decide) rfl 5 (by decide) rfl (ht _ m_454) (fun _ h => h) (Or.inl rfl) (bw_nr _ _) (bw_fr _ _) d_Bt_letGo_65 (fun H locs hW => ?_)
  refine bw_aload_n hx hb d_Bt_letGo_68 rfl (lv_at hl 0 rfl) ?_
  refine lv_dup hx hb d_Bt_letGo_69 (bw_cat _) ?_
  obtain ⟨t3, hq⟩ := hq
  refine bw_getI hx hb ht in_Bt hown hK hW rfl t3 (by decide) rfl 6 (by decide) rfl (ht _ m_251) (fun _ h => h) d_Bt_letGo_70 ?_
  refine lv_iconst (v := 1) hx hb d_Bt_letGo_73 (by decide) ?_
  refine lv_isub hx hb d_Bt_letGo_74 ?_
  refine bw_putI hx hb ht in_Bt y_Bt yk_Bt nm_Bt hown hK hW rfl t3 (by decide) rfl 6 (by decide) rfl (ht _ m_251) (fun _ h => h) (Or.inl rfl) rfl rfl d_Bt_letGo_75 (fun H locs hW => ?_)
  exact bw_vret C hW ⟨rfl, hq⟩ d_Bt_letGo_78 hc hs
def wb_Bt_letGo_29 (e0 mi : Nat) (Q : Wd → Prop) (x0 : Nat) (x1 : Option Nat) (w : Wd) : Prop :=
  ∃ a1 : Nat, x1 = some a1 ∧ (bw_is w a1 2 ∧ ((¬ (wR w a1 5) = none → (∃ a4 : Nat, (wR w a1 5) = some a4 ∧ (bw_is w a4 2 ∧ (wb_Bt_letGo_58 e0 mi Q x0 x1 (sR w a4 4 (wR w a1 4)))))) ∧ ((wR w a1 5) = none → (bw_is w x0 0 ∧ (wb_Bt_letGo_58 e0 mi Q x0 x1 (sR w x0 5 (wR w a1 4)))))))
set_option maxHeartbeats 4000000 in
set_option maxRecDepth 100000 in
theorem k_Bt_letGo_29 {p : Program} {l : Launch} {e : Env} {s : State} {m : MethodId} {args : Array Value} {below : List Frame} {meth : Method} {c : Code} {D : va_G} {AC : Nat → ClassId} {e0 mi : Nat} {A : Nat → Prop} {mc ms : Nat} {Q : Wd → Prop} (C : Cx p l s m args meth c D AC e0 mi A n_Bt_letGo b_Bt_letGo 2 none) (x0 : Nat) (x1 : Option Nat) (w : Wd) (hq : wb_Bt_letGo_29 e0 mi Q x0 x1 w) : ∀ (H : Heap) (locs : List Loc) (cells slots : Nat) (ls : Array Slot), HW D cls8 FTc AC A s.heap H locs w → lv_has ls 2 [(0, va_rf (some x0)), (1, va_rf x1)] → cells ≤ mc → slots ≤ ms → W p l e { frames := 0, cells := mc, slots := ms, locals := 0 } s m args below meth c H locs cells slots (vx_MQ below (QQ D AC A (fun v w9 => v = none ∧ Q w9)) (XX D AC A (fun _ _ => False)) args s mc ms A) (F0 m 29 ls []) := by
  obtain ⟨hl0, hx, hb, hr, ht, hown, hlocks, hnm, hml, hex, hK, hA, hZ, hV⟩ := id C
  intro H locs cells slots ls hW hl hc hs
  unfold wb_Bt_letGo_29 at hq
  refine bw_aload_n hx hb d_Bt_letGo_29 rfl (lv_at hl 1 rfl) ?_
  obtain ⟨a1, ea1, hq⟩ := hq
  obtain ⟨t2, hq⟩ := hq
  refine bw_getR hx hb ht in_It hown hK hW ea1 t2 (by decide) rfl 5 (by decide) rfl (ht _ m_454) (fun _ h => h) d_Bt_letGo_30 ?_
  refine bw_ifnonnull (tgt := 47) hx hb d_Bt_letGo_33 (by decide) (fun c3 => ?_) (fun c3 => ?_)
  · have hq := hq.1 c3
    refine bw_aload_n hx hb d_Bt_letGo_47 rfl (lv_at hl 1 rfl) ?_
    refine bw_getR hx hb ht in_It hown hK hW ea1 t2 (by decide) rfl 5 (by decide) rfl (ht _ m_454) (fun _ h => h) d_Bt_letGo_48 ?_
    refine bw_aload_n hx hb d_Bt_letGo_51 rfl (lv_at hl 1 rfl) ?_
    refine bw_getR hx hb ht in_It hown hK hW ea1 t2 (by decide) rfl 4 (by decide) rfl (ht _ m_452) (fun _ h => h) d_Bt_letGo_52 ?_
    obtain ⟨a4, ea4, hq⟩ := hq
    obtain ⟨t5, hq⟩ := hq
    refine bw_putR hx hb ht in_It y_It yk_It nm_It hown hK hW ea4 t5 (by decide) rfl 4 (by decide) rfl (ht _ m_452) (fun _ h => h) (Or.inl rfl) (bw_nr _ _) (bw_fr _ _) d_Bt_letGo_55 (fun H locs hW => ?_)
    exact k_Bt_letGo_58 C  _ _ _ hq _ _ _ _ _ hW (lv_sub hl [0, 1] rfl) hc hs
  · have hq := hq.2 c3
    refine bw_aload_n hx hb d_Bt_letGo_36 rfl (lv_at hl 0 rfl) ?_
    refine bw_aload_n hx hb d_Bt_letGo_37 rfl (lv_at hl 1 rfl) ?_
    refine bw_getR hx hb ht in_It hown hK hW ea1 t2 (by decide) rfl 4 (by decide) rfl (ht _ m_452) (fun _ h => h) d_Bt_letGo_38 ?_
    obtain ⟨t6, hq⟩ := hq
    refine bw_putR hx hb ht in_Bt y_Bt yk_Bt nm_Bt hown hK hW rfl t6 (by decide) rfl 5 (by decide) rfl (ht _ m_249) (fun _ h => h) (Or.inl rfl) (bw_nr _ _) (bw_fr _ _) d_Bt_letGo_41 (fun H locs hW => ?_)
    refine lv_goto (tgt := 58) hx hb d_Bt_letGo_44 (by decide) ?_
    exact k_Bt_letGo_58 C  _ _ _ hq _ _ _ _ _ hW (lv_sub hl [0, 1] rfl) hc hs
def wp_Bt_letGo (e0 mi : Nat) (x0 : Nat) (x1 : Option Nat) (w : Wd) (Q : Wd → Prop) : Prop :=
  ∃ a1 : Nat, x1 = some a1 ∧ (bw_is w a1 2 ∧ ((¬ (wR w a1 4) = none → (∃ a4 : Nat, (wR w a1 4) = some a4 ∧ (bw_is w a4 2 ∧ (wb_Bt_letGo_29 e0 mi Q x0 x1 (sR w a4 5 (wR w a1 5)))))) ∧ ((wR w a1 4) = none → (bw_is w x0 0 ∧ (wb_Bt_letGo_29 e0 mi Q x0 x1 (sR w x0 4 (wR w a1 5)))))))
set_option maxHeartbeats 4000000 in
set_option maxRecDepth 100000 in
theorem k_Bt_letGo_0 {p : Program} {l : Launch} {e : Env} {s : State} {m : MethodId} {args : Array Value} {below : List Frame} {meth : Method} {c : Code} {D : va_G} {AC : Nat → ClassId} {e0 mi : Nat} {A : Nat → Prop} {mc ms : Nat} {Q : Wd → Prop} (C : Cx p l s m args meth c D AC e0 mi A n_Bt_letGo b_Bt_letGo 2 none) (x0 : Nat) (x1 : Option Nat) (w : Wd) (hq : wp_Bt_letGo e0 mi x0 x1 w Q) : ∀ (H : Heap) (locs : List Loc) (cells slots : Nat) (ls : Array Slot), HW D cls8 FTc AC A s.heap H locs w → lv_has ls 2 [(0, va_rf (some x0)), (1, va_rf x1)] → cells ≤ mc → slots ≤ ms → W p l e { frames := 0, cells := mc, slots := ms, locals := 0 } s m args below meth c H locs cells slots (vx_MQ below (QQ D AC A (fun v w9 => v = none ∧ Q w9)) (XX D AC A (fun _ _ => False)) args s mc ms A) (F0 m 0 ls []) := by
  obtain ⟨hl0, hx, hb, hr, ht, hown, hlocks, hnm, hml, hex, hK, hA, hZ, hV⟩ := id C
  intro H locs cells slots ls hW hl hc hs
  unfold wp_Bt_letGo at hq
  refine bw_aload_n hx hb d_Bt_letGo_0 rfl (lv_at hl 1 rfl) ?_
  obtain ⟨a1, ea1, hq⟩ := hq
  obtain ⟨t2, hq⟩ := hq
  refine bw_getR hx hb ht in_It hown hK hW ea1 t2 (by decide) rfl 4 (by decide) rfl (ht _ m_452) (fun _ h => h) d_Bt_letGo_1 ?_
  refine bw_ifnonnull (tgt := 18) hx hb d_Bt_letGo_4 (by decide) (fun c3 => ?_) (fun c3 => ?_)
  · have hq := hq.1 c3
    refine bw_aload_n hx hb d_Bt_letGo_18 rfl (lv_at hl 1 rfl) ?_
    refine bw_getR hx hb ht in_It hown hK hW ea1 t2 (by decide) rfl 4 (by decide) rfl (ht _ m_452) (fun _ h => h) d_Bt_letGo_19 ?_
    refine bw_aload_n hx hb d_Bt_letGo_22 rfl (lv_at hl 1 rfl) ?_
    refine bw_getR hx hb ht in_It hown hK hW ea1 t2 (by decide) rfl 5 (by decide) rfl (ht _ m_454) (fun _ h => h) d_Bt_letGo_23 ?_
    obtain ⟨a4, ea4, hq⟩ := hq
    obtain ⟨t5, hq⟩ := hq
    refine bw_putR hx hb ht in_It y_It yk_It nm_It hown hK hW ea4 t5 (by decide) rfl 5 (by decide) rfl (ht _ m_454) (fun _ h => h) (Or.inl rfl) (bw_nr _ _) (bw_fr _ _) d_Bt_letGo_26 (fun H locs hW => ?_)
    exact k_Bt_letGo_29 C  _ _ _ hq _ _ _ _ _ hW (lv_sub hl [0, 1] rfl) hc hs
  · have hq := hq.2 c3
    refine bw_aload_n hx hb d_Bt_letGo_7 rfl (lv_at hl 0 rfl) ?_
    refine bw_aload_n hx hb d_Bt_letGo_8 rfl (lv_at hl 1 rfl) ?_
    refine bw_getR hx hb ht in_It hown hK hW ea1 t2 (by decide) rfl 5 (by decide) rfl (ht _ m_454) (fun _ h => h) d_Bt_letGo_9 ?_
    obtain ⟨t6, hq⟩ := hq
    refine bw_putR hx hb ht in_Bt y_Bt yk_Bt nm_Bt hown hK hW rfl t6 (by decide) rfl 4 (by decide) rfl (ht _ m_247) (fun _ h => h) (Or.inl rfl) (bw_nr _ _) (bw_fr _ _) d_Bt_letGo_12 (fun H locs hW => ?_)
    refine lv_goto (tgt := 29) hx hb d_Bt_letGo_15 (by decide) ?_
    exact k_Bt_letGo_29 C  _ _ _ hq _ _ _ _ _ hW (lv_sub hl [0, 1] rfl) hc hs
theorem ci_Bt_letGo : CI n_Bt_letGo b_Bt_letGo 2 none 1 := ⟨m_588, m_11, by decide, by decide, by decide +kernel⟩
theorem c_Bt_letGo {l : Launch} {D : va_G} {AC : Nat → ClassId} {e0 mi : Nat} {Q : Wd → Prop} (hl0 : l.stackTraces = false) (x0 : Nat) (x1 : Option Nat) (w : Wd) (hq : wp_Bt_letGo e0 mi x0 x1 w Q) : Ct l D AC e0 mi n_Bt_letGo (wy n_Bt_letGo b_Bt_letGo 2 none) 0 0 [va_rf (some x0), va_rf x1] w 0 0 (fun v w9 => v = none ∧ Q w9) (fun _ _ => False) :=
  Ct.of hl0 (by decide) (by simp [lg_sl, bw_cat, cat_i, cat_j]) (fun p e s m args below meth c A ls C hW hl => k_Bt_letGo_0 C x0 x1 w hq s.heap [] 0 0 ls hW (by simpa [lv_args, bw_cat, cat_i, cat_j] using hl) (Nat.le_refl _) (Nat.le_refl _))
def wb_It_leave_15 (e0 mi : Nat) (Q : Wd → Prop) (x0 : Nat) (x1 : Int32) (w : Wd) : Prop :=
  bw_is w x0 2 ∧ (wp_It_forgetWay e0 mi x0 (sI w x0 6 x1) (fun w3 => Q w3))
set_option maxHeartbeats 4000000 in
set_option maxRecDepth 100000 in
theorem k_It_leave_15 {p : Program} {l : Launch} {e : Env} {s : State} {m : MethodId} {args : Array Value} {below : List Frame} {meth : Method} {c : Code} {D : va_G} {AC : Nat → ClassId} {e0 mi : Nat} {A : Nat → Prop} {mc ms : Nat} {Q : Wd → Prop} (C : Cx p l s m args meth c D AC e0 mi A n_It_leave b_It_leave 2 none) (x0 : Nat) (x1 : Int32) (w : Wd) (hq : wb_It_leave_15 e0 mi Q x0 x1 w) : ∀ (H : Heap) (locs : List Loc) (cells slots : Nat) (ls : Array Slot), HW D cls8 FTc AC A s.heap H locs w → lv_has ls 2 [(0, va_rf (some x0)), (1, .int x1)] → cells ≤ mc → slots ≤ ms → W p l e { frames := 1, cells := mc, slots := ms, locals := 21 } s m args below meth c H locs cells slots (vx_MQ below (QQ D AC A (fun v w9 => v = none ∧ Q w9)) (XX D AC A (fun _ _ => False)) args s mc ms A) (F0 m 15 ls []) := by
  obtain ⟨hl0, hx, hb, hr, ht, hown, hlocks, hnm, hml, hex, hK, hA, hZ, hV⟩ := id C
  intro H locs cells slots ls hW hl hc hs
  unfold wb_It_leave_15 at hq
  refine bw_aload_n hx hb d_It_leave_15 rfl (lv_at hl 0 rfl) ?_
  refine lv_iload_n hx hb d_It_leave_16 rfl (lv_at hl 1 rfl) ?_
  obtain ⟨t1, hq⟩ := hq
  refine bw_putI hx hb ht in_It y_It yk_It nm_It hown hK hW rfl t1 (by decide) rfl 6 (by decide) rfl (ht _ m_456) (fun _ h => h) (Or.inl rfl) rfl rfl d_It_leave_17 (fun H locs hW => ?_)
  refine bw_aload_n hx hb d_It_leave_20 rfl (lv_at hl 0 rfl) ?_
  refine bw_callV (As := []) (rest := []) C hW ci_It_forgetWay m_499 m_501 sel_It_forgetWay d_It_leave_21 rfl t1 (by decide) rfl rfl rfl hl.1 (by decide) ⟨Nat.le_of_ble_eq_true rfl, Nat.le_of_ble_eq_true rfl⟩ ⟨hc, hs⟩ (c_It_forgetWay hl0 _ _ hq) (fun _ _ _ _ _ _ h => h.elim) (fun v2 w3 H locs hv hW => ?_)
  obtain ⟨rfl, hq⟩ := hv
  refine W.eq (g2 := F0 m 24 ls []) rfl ?_
  exact bw_vret C hW ⟨rfl, hq⟩ d_It_leave_24 hc hs
def wp_It_leave (e0 mi : Nat) (x0 : Nat) (x1 : Int32) (w : Wd) (Q : Wd → Prop) : Prop :=
  bw_is w x0 2 ∧ (((wR w x0 3) = none → (wb_It_leave_15 e0 mi Q x0 x1 w)) ∧ (¬ (wR w x0 3) = none → (∃ a3 : Nat, (wR w x0 3) = some a3 ∧ (bw_is w a3 0 ∧ (wp_Bt_letGo e0 mi a3 (some x0) w (fun w6 => wb_It_leave_15 e0 mi Q x0 x1 w6))))))
set_option maxHeartbeats 4000000 in
set_option maxRecDepth 100000 in
theorem k_It_leave_0 {p : Program} {l : Launch} {e : Env} {s : State} {m : MethodId} {args : Array Value} {below : List Frame} {meth : Method} {c : Code} {D : va_G} {AC : Nat → ClassId} {e0 mi : Nat} {A : Nat → Prop} {mc ms : Nat} {Q : Wd → Prop} (C : Cx p l s m args meth c D AC e0 mi A n_It_leave b_It_leave 2 none) (x0 : Nat) (x1 : Int32) (w : Wd) (hq : wp_It_leave e0 mi x0 x1 w Q) : ∀ (H : Heap) (locs : List Loc) (cells slots : Nat) (ls : Array Slot), HW D cls8 FTc AC A s.heap H locs w → lv_has ls 2 [(0, va_rf (some x0)), (1, .int x1)] → cells ≤ mc → slots ≤ ms → W p l e { frames := 1, cells := mc, slots := ms, locals := 21 } s m args below meth c H locs cells slots (vx_MQ below (QQ D AC A (fun v w9 => v = none ∧ Q w9)) (XX D AC A (fun _ _ => False)) args s mc ms A) (F0 m 0 ls []) := by
  obtain ⟨hl0, hx, hb, hr, ht, hown, hlocks, hnm, hml, hex, hK, hA, hZ, hV⟩ := id C
  intro H locs cells slots ls hW hl hc hs
  unfold wp_It_leave at hq
  refine bw_aload_n hx hb d_It_leave_0 rfl (lv_at hl 0 rfl) ?_
  obtain ⟨t1, hq⟩ := hq
  refine bw_getR hx hb ht in_It hown hK hW rfl t1 (by decide) rfl 3 (by decide) rfl (ht _ m_449) (fun _ h => h) d_It_leave_1 ?_
  refine bw_ifnull (tgt := 15) hx hb d_It_leave_4 (by decide) (fun c2 => ?_) (fun c2 => ?_)
  · have hq := hq.1 c2
    exact k_It_leave_15 C  _ _ _ hq _ _ _ _ _ hW (lv_sub hl [0, 1] rfl) hc hs
  · have hq := hq.2 c2
    refine bw_aload_n hx hb d_It_leave_7 rfl (lv_at hl 0 rfl) ?_
    refine bw_getR hx hb ht in_It hown hK hW rfl t1 (by decide) rfl 3 (by decide) rfl (ht _ m_449) (fun _ h => h) d_It_leave_8 ?_
    refine bw_aload_n hx hb d_It_leave_11 rfl (lv_at hl 0 rfl) ?_
    obtain ⟨a3, ea3, hq⟩ := hq
    obtain ⟨t4, hq⟩ := hq
    refine bw_callV (As := [va_rf (some x0)]) (rest := []) C hW ci_Bt_letGo m_585 m_586 m_587 d_It_leave_12 ea3 t4 (by decide) rfl rfl rfl hl.1 (by decide) ⟨Nat.le_of_ble_eq_true rfl, Nat.le_of_ble_eq_true rfl⟩ ⟨hc, hs⟩ (c_Bt_letGo hl0 _ _ _ hq) (fun _ _ _ _ _ _ h => h.elim) (fun v5 w6 H locs hv hW => ?_)
    obtain ⟨rfl, hq⟩ := hv
    refine W.eq (g2 := F0 m 15 ls []) rfl ?_
    exact k_It_leave_15 C  _ _ _ hq _ _ _ _ _ hW (lv_sub hl [0, 1] rfl) hc hs
theorem ci_It_leave : CI n_It_leave b_It_leave 2 none 1 := ⟨m_584, m_21, by decide, by decide, by decide +kernel⟩
theorem c_It_leave {l : Launch} {D : va_G} {AC : Nat → ClassId} {e0 mi : Nat} {Q : Wd → Prop} (hl0 : l.stackTraces = false) (x0 : Nat) (x1 : Int32) (w : Wd) (hq : wp_It_leave e0 mi x0 x1 w Q) : Ct l D AC e0 mi n_It_leave (wy n_It_leave b_It_leave 2 none) 1 21 [va_rf (some x0), .int x1] w 0 0 (fun v w9 => v = none ∧ Q w9) (fun _ _ => False) :=
  Ct.of hl0 (by decide) (by simp [lg_sl, bw_cat, cat_i, cat_j]) (fun p e s m args below meth c A ls C hW hl => k_It_leave_0 C x0 x1 w hq s.heap [] 0 0 ls hW (by simpa [lv_args, bw_cat, cat_i, cat_j] using hl) (Nat.le_refl _) (Nat.le_refl _))
def wb_It_goOn_30 (e0 mi : Nat) (Q : Wd → Prop) (x0 : Nat) (x1 : Option Nat) (x2 : Int32) (z0 : Int32) (w : Wd) : Prop :=
  bw_is w x0 2 ∧ (∃ a2 : Nat, x1 = some a2 ∧ (bw_is w a2 0 ∧ (∀ i4 : Int32, i4 = (if z0 < ((wI w x0 7) + (wI w a2 2)) then z0 else ((wI w x0 7) + (wI w a2 2))) → (∀ i5 : Int32, i5 = (if (wI w x0 7) < i4 then i4 else (wI w x0 7)) → (∀ i6 : Int32, i6 = (if (wI (sI w x0 7 i5) a2 1) < ((wI (sI w x0 7 i5) x0 8) + (wI (sI w x0 7 i5) a2 2)) then (wI (sI w x0 7 i5) a2 1) else ((wI (sI w x0 7 i5) x0 8) + (wI (sI w x0 7 i5) a2 2))) → (Q (sI (sI w x0 7 i5) x0 8 i6)))))))
set_option maxHeartbeats 4000000 in
set_option maxRecDepth 100000 in
theorem k_It_goOn_30 {p : Program} {l : Launch} {e : Env} {s : State} {m : MethodId} {args : Array Value} {below : List Frame} {meth : Method} {c : Code} {D : va_G} {AC : Nat → ClassId} {e0 mi : Nat} {A : Nat → Prop} {mc ms : Nat} {Q : Wd → Prop} (C : Cx p l s m args meth c D AC e0 mi A n_It_goOn b_It_goOn 4 none) (x0 : Nat) (x1 : Option Nat) (x2 : Int32) (z0 : Int32) (w : Wd) (hq : wb_It_goOn_30 e0 mi Q x0 x1 x2 z0 w) : ∀ (H : Heap) (locs : List Loc) (cells slots : Nat) (ls : Array Slot), HW D cls8 FTc AC A s.heap H locs w → lv_has ls 4 [(0, va_rf (some x0)), (1, va_rf x1), (2, .int x2)] → cells ≤ mc → slots ≤ ms → W p l e { frames := 1, cells := mc, slots := ms, locals := 40 } s m args below meth c H locs cells slots (vx_MQ below (QQ D AC A (fun v w9 => v = none ∧ Q w9)) (XX D AC A (fun _ _ => False)) args s mc ms A) (F0 m 30 ls [.int z0]) := by
  obtain ⟨hl0, hx, hb, hr, ht, hown, hlocks, hnm, hml, hex, hK, hA, hZ, hV⟩ := id C
  intro H locs cells slots ls hW hl hc hs
  unfold wb_It_goOn_30 at hq
  refine lv_istore_n (i := 3) (lv' := [(3, .int z0), (0, va_rf (some x0)), (1, va_rf x1), (2, .int x2)]) hx hb d_It_goOn_30 rfl hl (by decide) (by simp [bw_cat, cat_i, cat_j]) (fun ls hl => ?_)
  refine bw_aload_n hx hb d_It_goOn_31 rfl (lv_at hl 1 rfl) ?_
  refine bw_aload_n hx hb d_It_goOn_32 rfl (lv_at hl 1 rfl) ?_
  obtain ⟨t1, hq⟩ := hq
  refine bw_getI hx hb ht in_It hown hK hW rfl t1 (by decide) rfl 7 (by decide) rfl (ht _ m_458) (fun _ h => h) d_It_goOn_33 ?_
  refine bw_aload_n hx hb d_It_goOn_36 rfl (lv_at hl 1 rfl) ?_
  refine bw_getI hx hb ht in_It hown hK hW rfl t1 (by decide) rfl 7 (by decide) rfl (ht _ m_458) (fun _ h => h) d_It_goOn_37 ?_
  refine bw_aload_n hx hb d_It_goOn_40 rfl (lv_at hl 2 rfl) ?_
  obtain ⟨a2, ea2, hq⟩ := hq
  obtain ⟨t3, hq⟩ := hq
  refine bw_getI hx hb ht in_Bt hown hK hW ea2 t3 (by decide) rfl 2 (by decide) rfl (ht _ m_244) (fun _ h => h) d_It_goOn_41 ?_
  refine lv_iadd hx hb d_It_goOn_44 ?_
  refine lv_iload_n hx hb d_It_goOn_45 rfl (lv_at hl 0 rfl) ?_
  refine va_mmin hx hb (by rw [hml]; exact hl.1.symm) hown (ht _ m_639) (ht _ m_327) (ht _ m_14) (ht _ m_328) (Nat.le_of_ble_eq_true rfl) (by simp [bw_cat, cat_i, cat_j]) hc hs d_It_goOn_46 ?_
  refine lv_topi (fun i4 ei4 => ?_)
  have hq := hq i4 ei4
  refine va_mmax hx hb (by rw [hml]; exact hl.1.symm) hown (ht _ m_640) (ht _ m_294) (ht _ m_14) (ht _ m_295) (Nat.le_of_ble_eq_true rfl) (by simp [bw_cat, cat_i, cat_j]) hc hs d_It_goOn_49 ?_
  refine lv_topi (fun i5 ei5 => ?_)
  have hq := hq i5 ei5
  refine bw_putI hx hb ht in_It y_It yk_It nm_It hown hK hW rfl t1 (by decide) rfl 7 (by decide) rfl (ht _ m_458) (fun _ h => h) (Or.inl rfl) rfl rfl d_It_goOn_52 (fun H locs hW => ?_)
  refine bw_aload_n hx hb d_It_goOn_55 rfl (lv_at hl 1 rfl) ?_
  refine bw_aload_n hx hb d_It_goOn_56 rfl (lv_at hl 1 rfl) ?_
  refine bw_getI hx hb ht in_It hown hK hW rfl t1 (by decide) rfl 8 (by decide) rfl (ht _ m_461) (fun _ h => h) d_It_goOn_57 ?_
  refine bw_aload_n hx hb d_It_goOn_60 rfl (lv_at hl 2 rfl) ?_
  refine bw_getI hx hb ht in_Bt hown hK hW ea2 t3 (by decide) rfl 2 (by decide) rfl (ht _ m_244) (fun _ h => h) d_It_goOn_61 ?_
  refine lv_iadd hx hb d_It_goOn_64 ?_
  refine bw_aload_n hx hb d_It_goOn_65 rfl (lv_at hl 2 rfl) ?_
  refine bw_getI hx hb ht in_Bt hown hK hW ea2 t3 (by decide) rfl 1 (by decide) rfl (ht _ m_240) (fun _ h => h) d_It_goOn_66 ?_
  refine va_mmin hx hb (by rw [hml]; exact hl.1.symm) hown (ht _ m_639) (ht _ m_327) (ht _ m_14) (ht _ m_328) (Nat.le_of_ble_eq_true rfl) (by simp [bw_cat, cat_i, cat_j]) hc hs d_It_goOn_69 ?_
  refine lv_topi (fun i6 ei6 => ?_)
  have hq := hq i6 ei6
  refine bw_putI hx hb ht in_It y_It yk_It nm_It hown hK hW rfl t1 (by decide) rfl 8 (by decide) rfl (ht _ m_461) (fun _ h => h) (Or.inl rfl) rfl rfl d_It_goOn_72 (fun H locs hW => ?_)
  exact bw_vret C hW ⟨rfl, hq⟩ d_It_goOn_75 hc hs
def wp_It_goOn (e0 mi : Nat) (x0 : Nat) (x1 : Option Nat) (x2 : Int32) (w : Wd) (Q : Wd → Prop) : Prop :=
  bw_is w x0 2 ∧ ((¬ (wR w x0 4) = none → (∃ a3 : Nat, x1 = some a3 ∧ (bw_is w a3 0 ∧ (∃ a5 : Nat, (wR w x0 4) = some a5 ∧ (bw_is w a5 2 ∧ (wp_It_rear e0 mi a5 w (fun i13 w8 => ∀ i14 : Int32, i14 = (if (i13 - x2) < (wI w a3 1) then (i13 - x2) else (wI w a3 1)) → (wb_It_goOn_30 e0 mi Q x0 x1 x2 i14 w8)))))))) ∧ ((wR w x0 4) = none → (∃ a15 : Nat, x1 = some a15 ∧ (bw_is w a15 0 ∧ (wb_It_goOn_30 e0 mi Q x0 x1 x2 (wI w a15 1) w)))))
set_option maxHeartbeats 4000000 in
set_option maxRecDepth 100000 in
theorem k_It_goOn_0 {p : Program} {l : Launch} {e : Env} {s : State} {m : MethodId} {args : Array Value} {below : List Frame} {meth : Method} {c : Code} {D : va_G} {AC : Nat → ClassId} {e0 mi : Nat} {A : Nat → Prop} {mc ms : Nat} {Q : Wd → Prop} (C : Cx p l s m args meth c D AC e0 mi A n_It_goOn b_It_goOn 4 none) (x0 : Nat) (x1 : Option Nat) (x2 : Int32) (w : Wd) (hq : wp_It_goOn e0 mi x0 x1 x2 w Q) : ∀ (H : Heap) (locs : List Loc) (cells slots : Nat) (ls : Array Slot), HW D cls8 FTc AC A s.heap H locs w → lv_has ls 4 [(0, va_rf (some x0)), (1, va_rf x1), (2, .int x2)] → cells ≤ mc → slots ≤ ms → W p l e { frames := 1, cells := mc, slots := ms, locals := 40 } s m args below meth c H locs cells slots (vx_MQ below (QQ D AC A (fun v w9 => v = none ∧ Q w9)) (XX D AC A (fun _ _ => False)) args s mc ms A) (F0 m 0 ls []) := by
  obtain ⟨hl0, hx, hb, hr, ht, hown, hlocks, hnm, hml, hex, hK, hA, hZ, hV⟩ := id C
  intro H locs cells slots ls hW hl hc hs
  unfold wp_It_goOn at hq
  refine bw_aload_n hx hb d_It_goOn_0 rfl (lv_at hl 0 rfl) ?_
  obtain ⟨t1, hq⟩ := hq
  refine bw_getR hx hb ht in_It hown hK hW rfl t1 (by decide) rfl 4 (by decide) rfl (ht _ m_451) (fun _ h => h) d_It_goOn_1 ?_
  refine bw_ifnonnull (tgt := 14) hx hb d_It_goOn_4 (by decide) (fun c2 => ?_) (fun c2 => ?_)
  · have hq := hq.1 c2
    refine bw_aload_n hx hb d_It_goOn_14 rfl (lv_at hl 1 rfl) ?_
    obtain ⟨a3, ea3, hq⟩ := hq
    obtain ⟨t4, hq⟩ := hq
    refine bw_getI hx hb ht in_Bt hown hK hW ea3 t4 (by decide) rfl 1 (by decide) rfl (ht _ m_240) (fun _ h => h) d_It_goOn_15 ?_
    refine bw_aload_n hx hb d_It_goOn_18 rfl (lv_at hl 0 rfl) ?_
    refine bw_getR hx hb ht in_It hown hK hW rfl t1 (by decide) rfl 4 (by decide) rfl (ht _ m_451) (fun _ h => h) d_It_goOn_19 ?_
    obtain ⟨a5, ea5, hq⟩ := hq
    obtain ⟨t6, hq⟩ := hq
    refine bw_callV (As := []) (rest := [.int (wI w a3 1)]) C hW ci_It_rear m_638 m_433 m_434 d_It_goOn_22 ea5 t6 (by decide) rfl rfl rfl hl.1 (by simp [bw_cat, cat_i, cat_j]) ⟨Nat.le_of_ble_eq_true rfl, Nat.le_of_ble_eq_true rfl⟩ ⟨hc, hs⟩ (c_It_rear hl0 _ _ hq) (fun _ _ _ _ _ _ h => h.elim) (fun v7 w8 H locs hv hW => ?_)
    obtain ⟨i13, rfl, hq⟩ := hv
    refine W.eq (g2 := F0 m 25 ls [.int i13, .int (wI w a3 1)]) rfl ?_
    refine lv_iload_n hx hb d_It_goOn_25 rfl (lv_at hl 2 rfl) ?_
    refine lv_isub hx hb d_It_goOn_26 ?_
    refine va_mmin hx hb (by rw [hml]; exact hl.1.symm) hown (ht _ m_639) (ht _ m_327) (ht _ m_14) (ht _ m_328) (Nat.le_of_ble_eq_true rfl) (by exact Nat.le_of_ble_eq_true rfl) hc hs d_It_goOn_27 ?_
    refine lv_topi (fun i14 ei14 => ?_)
    have hq := hq i14 ei14
    exact k_It_goOn_30 C  _ _ _ _ _ hq _ _ _ _ _ hW (lv_sub hl [0, 1, 2] rfl) hc hs
  · have hq := hq.2 c2
    refine bw_aload_n hx hb d_It_goOn_7 rfl (lv_at hl 1 rfl) ?_
    obtain ⟨a15, ea15, hq⟩ := hq
    obtain ⟨t16, hq⟩ := hq
    refine bw_getI hx hb ht in_Bt hown hK hW ea15 t16 (by decide) rfl 1 (by decide) rfl (ht _ m_240) (fun _ h => h) d_It_goOn_8 ?_
    refine lv_goto (tgt := 30) hx hb d_It_goOn_11 (by decide) ?_
    exact k_It_goOn_30 C  _ _ _ _ _ hq _ _ _ _ _ hW (lv_sub hl [0, 1, 2] rfl) hc hs
theorem ci_It_goOn : CI n_It_goOn b_It_goOn 4 none 2 := ⟨m_637, m_21, by decide, by decide, by decide +kernel⟩
theorem c_It_goOn {l : Launch} {D : va_G} {AC : Nat → ClassId} {e0 mi : Nat} {Q : Wd → Prop} (hl0 : l.stackTraces = false) (x0 : Nat) (x1 : Option Nat) (x2 : Int32) (w : Wd) (hq : wp_It_goOn e0 mi x0 x1 x2 w Q) : Ct l D AC e0 mi n_It_goOn (wy n_It_goOn b_It_goOn 4 none) 1 40 [va_rf (some x0), va_rf x1, .int x2] w 0 0 (fun v w9 => v = none ∧ Q w9) (fun _ _ => False) :=
  Ct.of hl0 (by decide) (by simp [lg_sl, bw_cat, cat_i, cat_j]) (fun p e s m args below meth c A ls C hW hl => k_It_goOn_0 C x0 x1 x2 w hq s.heap [] 0 0 ls hW (by simpa [lv_args, bw_cat, cat_i, cat_j] using hl) (Nat.le_refl _) (Nat.le_refl _))
