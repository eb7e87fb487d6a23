/-! printed by wip/gen/walk.py out of the bytecode: It_rear It_forgetWay Wy_nextNumber Wy_leadTo Wy_isDueBefore Bt_wayNumbered Bt_itemAtEnd -/
def wp_It_rear (e0 : Nat) (x0 : Nat) (w : Wd) (Q : Int32 → Wd → Prop) : Prop :=
  bw_is w x0 2 ∧ (Q ((wI w x0 7) - (wI w x0 1)) w)
set_option maxHeartbeats 4000000 in
set_option maxRecDepth 100000 in
theorem k_It_rear_0 {p : Program} {l : Launch} {e : Env} {s : State} {m : MethodId} {args : Array Value} {below : List Frame} {meth : Method} {c : Code} {D : va_G} {AC : Nat → ClassId} {e0 mi : Nat} {A : Nat → Prop} {mc ms : Nat} {Q : Int32 → Wd → Prop} (C : Cx p l s m args meth c D AC e0 mi A n_It_rear b_It_rear 1 (some .int)) (x0 : Nat) (w : Wd) (hq : wp_It_rear e0 x0 w Q) : ∀ (H : Heap) (locs : List Loc) (cells slots : Nat) (ls : Array Slot), HW D cls8 FTc AC A s.heap H locs w → lv_has ls 1 [(0, va_rf (some x0))] → cells ≤ mc → slots ≤ ms → W p l e { frames := 0, cells := mc, slots := ms, locals := 0 } s m args below meth c H locs cells slots (vx_MQ below (QQ D AC A (fun v w9 => ∃ r9 : Int32, v = some (.int r9) ∧ Q r9 w9)) (XX D AC A (fun _ _ => False)) args s mc ms A) (F0 m 0 ls []) := by
  obtain ⟨hl0, hx, hb, hr, ht, hown, hlocks, hnm, hml, hex, hK, hA, hZ, hV⟩ := id C
  intro H locs cells slots ls hW hl hc hs
  unfold wp_It_rear at hq
  refine bw_aload_n hx hb d_It_rear_0 rfl (lv_at hl 0 rfl) ?_
  obtain ⟨t1, hq⟩ := hq
  refine bw_getI hx hb ht in_It hown hK hW rfl t1 (by decide) rfl 7 (by decide) rfl (ht _ m_458) (fun _ h => h) d_It_rear_1 ?_
  refine bw_aload_n hx hb d_It_rear_4 rfl (lv_at hl 0 rfl) ?_
  refine bw_getI hx hb ht in_It hown hK hW rfl t1 (by decide) rfl 1 (by decide) rfl (ht _ m_445) (fun _ h => h) d_It_rear_5 ?_
  refine lv_isub hx hb d_It_rear_8 ?_
  exact bw_iret C hW ⟨_, rfl, hq⟩ d_It_rear_9 hc hs
theorem ci_It_rear : CI n_It_rear b_It_rear 1 (some .int) 0 := ⟨m_435, m_21, by decide, by decide, by decide +kernel⟩
theorem c_It_rear {l : Launch} {D : va_G} {AC : Nat → ClassId} {e0 mi : Nat} {Q : Int32 → Wd → Prop} (hl0 : l.stackTraces = false) (x0 : Nat) (w : Wd) (hq : wp_It_rear e0 x0 w Q) : Ct l D AC e0 mi n_It_rear (wy n_It_rear b_It_rear 1 (some .int)) 0 0 [va_rf (some x0)] w 0 0 (fun v w9 => ∃ r9 : Int32, v = some (.int r9) ∧ Q r9 w9) (fun _ _ => False) :=
  Ct.of hl0 (by decide) (by simp [lg_sl, bw_cat, cat_i, cat_j]) (fun p e s m args below meth c A ls C hW hl => k_It_rear_0 C x0 w hq s.heap [] 0 0 ls hW (by simpa [lv_args, bw_cat, cat_i, cat_j] using hl) (Nat.le_refl _) (Nat.le_refl _))
def wp_It_forgetWay (e0 : Nat) (x0 : Nat) (w : Wd) (Q : Wd → Prop) : Prop :=
  bw_is w x0 2 ∧ (Q (sI (sI w x0 9 (0 : Int32)) x0 10 (0 : Int32)))
set_option maxHeartbeats 4000000 in
set_option maxRecDepth 100000 in
theorem k_It_forgetWay_0 {p : Program} {l : Launch} {e : Env} {s : State} {m : MethodId} {args : Array Value} {below : List Frame} {meth : Method} {c : Code} {D : va_G} {AC : Nat → ClassId} {e0 mi : Nat} {A : Nat → Prop} {mc ms : Nat} {Q : Wd → Prop} (C : Cx p l s m args meth c D AC e0 mi A n_It_forgetWay b_It_forgetWay 1 none) (x0 : Nat) (w : Wd) (hq : wp_It_forgetWay e0 x0 w Q) : ∀ (H : Heap) (locs : List Loc) (cells slots : Nat) (ls : Array Slot), HW D cls8 FTc AC A s.heap H locs w → lv_has ls 1 [(0, va_rf (some x0))] → cells ≤ mc → slots ≤ ms → W p l e { frames := 0, cells := mc, slots := ms, locals := 0 } s m args below meth c H locs cells slots (vx_MQ below (QQ D AC A (fun v w9 => v = none ∧ Q w9)) (XX D AC A (fun _ _ => False)) args s mc ms A) (F0 m 0 ls []) := by
  obtain ⟨hl0, hx, hb, hr, ht, hown, hlocks, hnm, hml, hex, hK, hA, hZ, hV⟩ := id C
  intro H locs cells slots ls hW hl hc hs
  unfold wp_It_forgetWay at hq
  refine bw_aload_n hx hb d_It_forgetWay_0 rfl (lv_at hl 0 rfl) ?_
  refine lv_iconst (v := 0) hx hb d_It_forgetWay_1 (by decide) ?_
  obtain ⟨t1, hq⟩ := hq
  refine bw_putI hx hb ht in_It y_It yk_It nm_It hown hK hW rfl t1 (by decide) rfl 9 (by decide) rfl (ht _ m_463) (fun _ h => h) (Or.inl rfl) rfl rfl d_It_forgetWay_2 (fun H locs hW => ?_)
  refine bw_aload_n hx hb d_It_forgetWay_5 rfl (lv_at hl 0 rfl) ?_
  refine lv_iconst (v := 0) hx hb d_It_forgetWay_6 (by decide) ?_
  refine bw_putI hx hb ht in_It y_It yk_It nm_It hown hK hW rfl t1 (by decide) rfl 10 (by decide) rfl (ht _ m_466) (fun _ h => h) (Or.inl rfl) rfl rfl d_It_forgetWay_7 (fun H locs hW => ?_)
  exact bw_vret C hW ⟨rfl, hq⟩ d_It_forgetWay_10 hc hs
theorem ci_It_forgetWay : CI n_It_forgetWay b_It_forgetWay 1 none 0 := ⟨m_502, m_21, by decide, by decide, by decide +kernel⟩
theorem sel_It_forgetWay : Cond.selects "BeltRows$Item" n_It_forgetWay n_It_forgetWay ∈ TBL := List.mem_filter.mpr ⟨List.mem_append_left _ (List.mem_map.mpr ⟨(n_It_forgetWay, 11), by decide +kernel, rfl⟩), rfl⟩
theorem c_It_forgetWay {l : Launch} {D : va_G} {AC : Nat → ClassId} {e0 mi : Nat} {Q : Wd → Prop} (hl0 : l.stackTraces = false) (x0 : Nat) (w : Wd) (hq : wp_It_forgetWay e0 x0 w Q) : Ct l D AC e0 mi n_It_forgetWay (wy n_It_forgetWay b_It_forgetWay 1 none) 0 0 [va_rf (some x0)] w 0 0 (fun v w9 => v = none ∧ Q w9) (fun _ _ => False) :=
  Ct.of hl0 (by decide) (by simp [lg_sl, bw_cat, cat_i, cat_j]) (fun p e s m args below meth c A ls C hW hl => k_It_forgetWay_0 C x0 w hq s.heap [] 0 0 ls hW (by simpa [lv_args, bw_cat, cat_i, cat_j] using hl) (Nat.le_refl _) (Nat.le_refl _))
def wb_Wy_nextNumber_18 (e0 : Nat) (Q : Int32 → Wd → Prop) (x0 : Option Nat) (z0 : Int32) (w : Wd) : Prop :=
  Q z0 w
set_option maxHeartbeats 4000000 in
set_option maxRecDepth 100000 in
theorem k_Wy_nextNumber_18 {p : Program} {l : Launch} {e : Env} {s : State} {m : MethodId} {args : Array Value} {below : List Frame} {meth : Method} {c : Code} {D : va_G} {AC : Nat → ClassId} {e0 mi : Nat} {A : Nat → Prop} {mc ms : Nat} {Q : Int32 → Wd → Prop} (C : Cx p l s m args meth c D AC e0 mi A n_Wy_nextNumber b_Wy_nextNumber 1 (some .int)) (x0 : Option Nat) (z0 : Int32) (w : Wd) (hq : wb_Wy_nextNumber_18 e0 Q x0 z0 w) : ∀ (H : Heap) (locs : List Loc) (cells slots : Nat) (ls : Array Slot), HW D cls8 FTc AC A s.heap H locs w → lv_has ls 1 [(0, va_rf x0)] → cells ≤ mc → slots ≤ ms → W p l e { frames := 0, cells := mc, slots := ms, locals := 0 } s m args below meth c H locs cells slots (vx_MQ below (QQ D AC A (fun v w9 => ∃ r9 : Int32, v = some (.int r9) ∧ Q r9 w9)) (XX D AC A (fun _ _ => False)) args s mc ms A) (F0 m 18 ls [.int z0]) := by
  obtain ⟨hl0, hx, hb, hr, ht, hown, hlocks, hnm, hml, hex, hK, hA, hZ, hV⟩ := id C
  intro H locs cells slots ls hW hl hc hs
  unfold wb_Wy_nextNumber_18 at hq
  exact bw_iret C hW ⟨_, rfl, hq⟩ d_Wy_nextNumber_18 hc hs
def wp_Wy_nextNumber (e0 : Nat) (x0 : Nat) (w : Wd) (Q : Int32 → Wd → Prop) : Prop :=
  bw_is w x0 4 ∧ ((¬ (wR w x0 0) = none → (∃ a3 : Nat, (wR w x0 0) = some a3 ∧ (bw_is w a3 0 ∧ (wb_Wy_nextNumber_18 e0 Q (some x0) (wI w a3 0) w)))) ∧ ((wR w x0 0) = none → (wb_Wy_nextNumber_18 e0 Q (some x0) (-1 : Int32) w)))
set_option maxHeartbeats 4000000 in
set_option maxRecDepth 100000 in
theorem k_Wy_nextNumber_0 {p : Program} {l : Launch} {e : Env} {s : State} {m : MethodId} {args : Array Value} {below : List Frame} {meth : Method} {c : Code} {D : va_G} {AC : Nat → ClassId} {e0 mi : Nat} {A : Nat → Prop} {mc ms : Nat} {Q : Int32 → Wd → Prop} (C : Cx p l s m args meth c D AC e0 mi A n_Wy_nextNumber b_Wy_nextNumber 1 (some .int)) (x0 : Nat) (w : Wd) (hq : wp_Wy_nextNumber e0 x0 w Q) : ∀ (H : Heap) (locs : List Loc) (cells slots : Nat) (ls : Array Slot), HW D cls8 FTc AC A s.heap H locs w → lv_has ls 1 [(0, va_rf (some x0))] → cells ≤ mc → slots ≤ ms → W p l e { frames := 0, cells := mc, slots := ms, locals := 0 } s m args below meth c H locs cells slots (vx_MQ below (QQ D AC A (fun v w9 => ∃ r9 : Int32, v = some (.int r9) ∧ Q r9 w9)) (XX D AC A (fun _ _ => False)) args s mc ms A) (F0 m 0 ls []) := by
  obtain ⟨hl0, hx, hb, hr, ht, hown, hlocks, hnm, hml, hex, hK, hA, hZ, hV⟩ := id C
  intro H locs cells slots ls hW hl hc hs
  unfold wp_Wy_nextNumber at hq
  refine bw_aload_n hx hb d_Wy_nextNumber_0 rfl (lv_at hl 0 rfl) ?_
  obtain ⟨t1, hq⟩ := hq
  refine bw_getR hx hb ht in_Wy hown hK hW rfl t1 (by decide) rfl 0 (by decide) rfl (ht _ m_223) (fun _ h => h) d_Wy_nextNumber_1 ?_
  refine bw_ifnonnull (tgt := 11) hx hb d_Wy_nextNumber_4 (by decide) (fun c2 => ?_) (fun c2 => ?_)
  · have hq := hq.1 c2
    refine bw_aload_n hx hb d_Wy_nextNumber_11 rfl (lv_at hl 0 rfl) ?_
    refine bw_getR hx hb ht in_Wy hown hK hW rfl t1 (by decide) rfl 0 (by decide) rfl (ht _ m_223) (fun _ h => h) d_Wy_nextNumber_12 ?_
    obtain ⟨a3, ea3, hq⟩ := hq
    obtain ⟨t4, hq⟩ := hq
    refine bw_getI hx hb ht in_Bt hown hK hW ea3 t4 (by decide) rfl 0 (by decide) rfl (ht _ m_237) (fun _ h => h) d_Wy_nextNumber_15 ?_
    exact k_Wy_nextNumber_18 C  _ _ _ hq _ _ _ _ _ hW (lv_sub hl [0] rfl) hc hs
  · have hq := hq.2 c2
    refine lv_iconst (v := (-1)) hx hb d_Wy_nextNumber_7 (by decide) ?_
    refine lv_goto (tgt := 18) hx hb d_Wy_nextNumber_8 (by decide) ?_
    exact k_Wy_nextNumber_18 C  _ _ _ hq _ _ _ _ _ hW (lv_sub hl [0] rfl) hc hs
theorem ci_Wy_nextNumber : CI n_Wy_nextNumber b_Wy_nextNumber 1 (some .int) 0 := ⟨m_704, m_12, by decide, by decide, by decide +kernel⟩
theorem c_Wy_nextNumber {l : Launch} {D : va_G} {AC : Nat → ClassId} {e0 mi : Nat} {Q : Int32 → Wd → Prop} (hl0 : l.stackTraces = false) (x0 : Nat) (w : Wd) (hq : wp_Wy_nextNumber e0 x0 w Q) : Ct l D AC e0 mi n_Wy_nextNumber (wy n_Wy_nextNumber b_Wy_nextNumber 1 (some .int)) 0 0 [va_rf (some x0)] w 0 0 (fun v w9 => ∃ r9 : Int32, v = some (.int r9) ∧ Q r9 w9) (fun _ _ => False) :=
  Ct.of hl0 (by decide) (by simp [lg_sl, bw_cat, cat_i, cat_j]) (fun p e s m args below meth c A ls C hW hl => k_Wy_nextNumber_0 C x0 w hq s.heap [] 0 0 ls hW (by simpa [lv_args, bw_cat, cat_i, cat_j] using hl) (Nat.le_refl _) (Nat.le_refl _))
def wp_Wy_leadTo (e0 : Nat) (x0 : Nat) (x1 : Option Nat) (x2 : Int32) (w : Wd) (Q : Wd → Prop) : Prop :=
  bw_is w x0 4 ∧ (Q (sI (sI (sR w x0 0 x1) x0 1 x2) x0 2 (0 : Int32)))
set_option maxHeartbeats 4000000 in
set_option maxRecDepth 100000 in
theorem k_Wy_leadTo_0 {p : Program} {l : Launch} {e : Env} {s : State} {m : MethodId} {args : Array Value} {below : List Frame} {meth : Method} {c : Code} {D : va_G} {AC : Nat → ClassId} {e0 mi : Nat} {A : Nat → Prop} {mc ms : Nat} {Q : Wd → Prop} (C : Cx p l s m args meth c D AC e0 mi A n_Wy_leadTo b_Wy_leadTo 3 none) (x0 : Nat) (x1 : Option Nat) (x2 : Int32) (w : Wd) (hq : wp_Wy_leadTo e0 x0 x1 x2 w Q) : ∀ (H : Heap) (locs : List Loc) (cells slots : Nat) (ls : Array Slot), HW D cls8 FTc AC A s.heap H locs w → lv_has ls 3 [(0, va_rf (some x0)), (1, va_rf x1), (2, .int x2)] → cells ≤ mc → slots ≤ ms → W p l e { frames := 0, cells := mc, slots := ms, locals := 0 } s m args below meth c H locs cells slots (vx_MQ below (QQ D AC A (fun v w9 => v = none ∧ Q w9)) (XX D AC A (fun _ _ => False)) args s mc ms A) (F0 m 0 ls []) := by
  obtain ⟨hl0, hx, hb, hr, ht, hown, hlocks, hnm, hml, hex, hK, hA, hZ, hV⟩ := id C
  intro H locs cells slots ls hW hl hc hs
  unfold wp_Wy_leadTo at hq
  refine bw_aload_n hx hb d_Wy_leadTo_0 rfl (lv_at hl 0 rfl) ?_
  refine bw_aload_n hx hb d_Wy_leadTo_1 rfl (lv_at hl 1 rfl) ?_
  obtain ⟨t1, hq⟩ := hq
  refine bw_putR hx hb ht in_Wy y_Wy yk_Wy nm_Wy hown hK hW rfl t1 (by decide) rfl 0 (by decide) rfl (ht _ m_223) (fun _ h => h) (Or.inl rfl) (bw_nr _ _) (bw_fr _ _) d_Wy_leadTo_2 (fun H locs hW => ?_)
  refine bw_aload_n hx hb d_Wy_leadTo_5 rfl (lv_at hl 0 rfl) ?_
  refine lv_iload_n hx hb d_Wy_leadTo_6 rfl (lv_at hl 2 rfl) ?_
  refine bw_putI hx hb ht in_Wy y_Wy yk_Wy nm_Wy hown hK hW rfl t1 (by decide) rfl 1 (by decide) rfl (ht _ m_226) (fun _ h => h) (Or.inl rfl) rfl rfl d_Wy_leadTo_7 (fun H locs hW => ?_)
  refine bw_aload_n hx hb d_Wy_leadTo_10 rfl (lv_at hl 0 rfl) ?_
  refine lv_iconst (v := 0) hx hb d_Wy_leadTo_11 (by decide) ?_
  refine bw_putI hx hb ht in_Wy y_Wy yk_Wy nm_Wy hown hK hW rfl t1 (by decide) rfl 2 (by decide) rfl (ht _ m_227) (fun _ h => h) (Or.inl rfl) rfl rfl d_Wy_leadTo_12 (fun H locs hW => ?_)
  exact bw_vret C hW ⟨rfl, hq⟩ d_Wy_leadTo_15 hc hs
theorem ci_Wy_leadTo : CI n_Wy_leadTo b_Wy_leadTo 3 none 2 := ⟨m_370, m_12, by decide, by decide, by decide +kernel⟩
theorem c_Wy_leadTo {l : Launch} {D : va_G} {AC : Nat → ClassId} {e0 mi : Nat} {Q : Wd → Prop} (hl0 : l.stackTraces = false) (x0 : Nat) (x1 : Option Nat) (x2 : Int32) (w : Wd) (hq : wp_Wy_leadTo e0 x0 x1 x2 w Q) : Ct l D AC e0 mi n_Wy_leadTo (wy n_Wy_leadTo b_Wy_leadTo 3 none) 0 0 [va_rf (some x0), va_rf x1, .int x2] w 0 0 (fun v w9 => v = none ∧ Q w9) (fun _ _ => False) :=
  Ct.of hl0 (by decide) (by simp [lg_sl, bw_cat, cat_i, cat_j]) (fun p e s m args below meth c A ls C hW hl => k_Wy_leadTo_0 C x0 x1 x2 w hq s.heap [] 0 0 ls hW (by simpa [lv_args, bw_cat, cat_i, cat_j] using hl) (Nat.le_refl _) (Nat.le_refl _))
def wb_Wy_isDueBefore_26 (e0 : Nat) (Q : Int32 → Wd → Prop) (x0 : Option Nat) (x1 : Option Nat) (z0 : Int32) (w : Wd) : Prop :=
  bw_b z0 ∧ Q z0 w
set_option maxHeartbeats 4000000 in
set_option maxRecDepth 100000 in
theorem k_Wy_isDueBefore_26 {p : Program} {l : Launch} {e : Env} {s : State} {m : MethodId} {args : Array Value} {below : List Frame} {meth : Method} {c : Code} {D : va_G} {AC : Nat → ClassId} {e0 mi : Nat} {A : Nat → Prop} {mc ms : Nat} {Q : Int32 → Wd → Prop} (C : Cx p l s m args meth c D AC e0 mi A n_Wy_isDueBefore b_Wy_isDueBefore 2 (some .boolean)) (x0 : Option Nat) (x1 : Option Nat) (z0 : Int32) (w : Wd) (hq : wb_Wy_isDueBefore_26 e0 Q x0 x1 z0 w) : ∀ (H : Heap) (locs : List Loc) (cells slots : Nat) (ls : Array Slot), HW D cls8 FTc AC A s.heap H locs w → lv_has ls 2 [(0, va_rf x0), (1, va_rf x1)] → cells ≤ mc → slots ≤ ms → W p l e { frames := 0, cells := mc, slots := ms, locals := 0 } s m args below meth c H locs cells slots (vx_MQ below (QQ D AC A (fun v w9 => ∃ r9 : Int32, v = some (.int r9) ∧ Q r9 w9)) (XX D AC A (fun _ _ => False)) args s mc ms A) (F0 m 26 ls [.int z0]) := by
  obtain ⟨hl0, hx, hb, hr, ht, hown, hlocks, hnm, hml, hex, hK, hA, hZ, hV⟩ := id C
  intro H locs cells slots ls hW hl hc hs
  unfold wb_Wy_isDueBefore_26 at hq
  obtain ⟨h1, hq⟩ := hq
  exact bw_zret C hW (bw_bn h1) ⟨_, rfl, hq⟩ d_Wy_isDueBefore_26 hc hs
def wp_Wy_isDueBefore (e0 : Nat) (x0 : Nat) (x1 : Option Nat) (w : Wd) (Q : Int32 → Wd → Prop) : Prop :=
  bw_is w x0 4 ∧ (∃ a2 : Nat, x1 = some a2 ∧ (bw_is w a2 4 ∧ (∃ a4 : Nat, x1 = some a4 ∧ (bw_is w a4 4 ∧ ((((wI w a4 2) * (wI w x0 1)) ≤ ((wI w x0 2) * (wI w a2 1)) → (wb_Wy_isDueBefore_26 e0 Q (some x0) x1 (0 : Int32) w)) ∧ (¬ ((wI w a4 2) * (wI w x0 1)) ≤ ((wI w x0 2) * (wI w a2 1)) → (wb_Wy_isDueBefore_26 e0 Q (some x0) x1 (1 : Int32) w)))))))
set_option maxHeartbeats 4000000 in
set_option maxRecDepth 100000 in
theorem k_Wy_isDueBefore_0 {p : Program} {l : Launch} {e : Env} {s : State} {m : MethodId} {args : Array Value} {below : List Frame} {meth : Method} {c : Code} {D : va_G} {AC : Nat → ClassId} {e0 mi : Nat} {A : Nat → Prop} {mc ms : Nat} {Q : Int32 → Wd → Prop} (C : Cx p l s m args meth c D AC e0 mi A n_Wy_isDueBefore b_Wy_isDueBefore 2 (some .boolean)) (x0 : Nat) (x1 : Option Nat) (w : Wd) (hq : wp_Wy_isDueBefore e0 x0 x1 w Q) : ∀ (H : Heap) (locs : List Loc) (cells slots : Nat) (ls : Array Slot), HW D cls8 FTc AC A s.heap H locs w → lv_has ls 2 [(0, va_rf (some x0)), (1, va_rf x1)] → cells ≤ mc → slots ≤ ms → W p l e { frames := 0, cells := mc, slots := ms, locals := 0 } s m args below meth c H locs cells slots (vx_MQ below (QQ D AC A (fun v w9 => ∃ r9 : Int32, v = some (.int r9) ∧ Q r9 w9)) (XX D AC A (fun _ _ => False)) args s mc ms A) (F0 m 0 ls []) := by
  obtain ⟨hl0, hx, hb, hr, ht, hown, hlocks, hnm, hml, hex, hK, hA, hZ, hV⟩ := id C
  intro H locs cells slots ls hW hl hc hs
  unfold wp_Wy_isDueBefore at hq
  refine bw_aload_n hx hb d_Wy_isDueBefore_0 rfl (lv_at hl 0 rfl) ?_
  obtain ⟨t1, hq⟩ := hq
  refine bw_getI hx hb ht in_Wy hown hK hW rfl t1 (by decide) rfl 2 (by decide) rfl (ht _ m_227) (fun _ h => h) d_Wy_isDueBefore_1 ?_
  refine bw_aload_n hx hb d_Wy_isDueBefore_4 rfl (lv_at hl 1 rfl) ?_
  obtain ⟨a2, ea2, hq⟩ := hq
  obtain ⟨t3, hq⟩ := hq
  refine bw_getI hx hb ht in_Wy hown hK hW ea2 t3 (by decide) rfl 1 (by decide) rfl (ht _ m_226) (fun _ h => h) d_Wy_isDueBefore_5 ?_
  refine lv_imul hx hb d_Wy_isDueBefore_8 ?_
  refine bw_aload_n hx hb d_Wy_isDueBefore_9 rfl (lv_at hl 1 rfl) ?_
  obtain ⟨a4, ea4, hq⟩ := hq
  obtain ⟨t5, hq⟩ := hq
  refine bw_getI hx hb ht in_Wy hown hK hW ea4 t5 (by decide) rfl 2 (by decide) rfl (ht _ m_227) (fun _ h => h) d_Wy_isDueBefore_10 ?_
  refine bw_aload_n hx hb d_Wy_isDueBefore_13 rfl (lv_at hl 0 rfl) ?_
  refine bw_getI hx hb ht in_Wy hown hK hW rfl t1 (by decide) rfl 1 (by decide) rfl (ht _ m_226) (fun _ h => h) d_Wy_isDueBefore_14 ?_
  refine lv_imul hx hb d_Wy_isDueBefore_17 ?_
  refine lv_icmp_ge (tgt := 25) hx hb d_Wy_isDueBefore_18 (by decide) (fun c6 => ?_) (fun c6 => ?_)
  · have hq := hq.1 c6
    refine lv_iconst (v := 0) hx hb d_Wy_isDueBefore_25 (by decide) ?_
    exact k_Wy_isDueBefore_26 C  _ _ _ _ hq _ _ _ _ _ hW (lv_sub hl [0, 1] rfl) hc hs
  · have hq := hq.2 c6
    refine lv_iconst (v := 1) hx hb d_Wy_isDueBefore_21 (by decide) ?_
    refine lv_goto (tgt := 26) hx hb d_Wy_isDueBefore_22 (by decide) ?_
    exact k_Wy_isDueBefore_26 C  _ _ _ _ hq _ _ _ _ _ hW (lv_sub hl [0, 1] rfl) hc hs
theorem ci_Wy_isDueBefore : CI n_Wy_isDueBefore b_Wy_isDueBefore 2 (some .boolean) 1 := ⟨m_628, m_12, by decide, by decide, by decide +kernel⟩
theorem c_Wy_isDueBefore {l : Launch} {D : va_G} {AC : Nat → ClassId} {e0 mi : Nat} {Q : Int32 → Wd → Prop} (hl0 : l.stackTraces = false) (x0 : Nat) (x1 : Option Nat) (w : Wd) (hq : wp_Wy_isDueBefore e0 x0 x1 w Q) : Ct l D AC e0 mi n_Wy_isDueBefore (wy n_Wy_isDueBefore b_Wy_isDueBefore 2 (some .boolean)) 0 0 [va_rf (some x0), va_rf x1] w 0 0 (fun v w9 => ∃ r9 : Int32, v = some (.int r9) ∧ Q r9 w9) (fun _ _ => False) :=
  Ct.of hl0 (by decide) (by simp [lg_sl, bw_cat, cat_i, cat_j]) (fun p e s m args below meth c A ls C hW hl => k_Wy_isDueBefore_0 C x0 x1 w hq s.heap [] 0 0 ls hW (by simpa [lv_args, bw_cat, cat_i, cat_j] using hl) (Nat.le_refl _) (Nat.le_refl _))
def wb_Bt_wayNumbered_16 (e0 : Nat) (Q : Option Nat → Wd → Prop) (x0 : Option Nat) (x1 : Int32) (z0 : Option Nat) (w : Wd) : Prop :=
  Q z0 w
set_option maxHeartbeats 4000000 in
set_option maxRecDepth 100000 in
theorem k_Bt_wayNumbered_16 {p : Program} {l : Launch} {e : Env} {s : State} {m : MethodId} {args : Array Value} {below : List Frame} {meth : Method} {c : Code} {D : va_G} {AC : Nat → ClassId} {e0 mi : Nat} {A : Nat → Prop} {mc ms : Nat} {Q : Option Nat → Wd → Prop} (C : Cx p l s m args meth c D AC e0 mi A n_Bt_wayNumbered b_Bt_wayNumbered 2 (some (.object "BeltRows$Way"))) (x0 : Option Nat) (x1 : Int32) (z0 : Option Nat) (w : Wd) (hq : wb_Bt_wayNumbered_16 e0 Q x0 x1 z0 w) : ∀ (H : Heap) (locs : List Loc) (cells slots : Nat) (ls : Array Slot), HW D cls8 FTc AC A s.heap H locs w → lv_has ls 2 [(0, va_rf x0), (1, .int x1)] → cells ≤ mc → slots ≤ ms → W p l e { frames := 0, cells := mc, slots := ms, locals := 0 } s m args below meth c H locs cells slots (vx_MQ below (QQ D AC A (fun v w9 => ∃ r9 : Option Nat, v = some (va_rf r9) ∧ Q r9 w9)) (XX D AC A (fun _ _ => False)) args s mc ms A) (F0 m 16 ls [va_rf z0]) := by
  obtain ⟨hl0, hx, hb, hr, ht, hown, hlocks, hnm, hml, hex, hK, hA, hZ, hV⟩ := id C
  intro H locs cells slots ls hW hl hc hs
  unfold wb_Bt_wayNumbered_16 at hq
  exact bw_aret C (Or.inl ⟨_, rfl⟩) hW ⟨_, rfl, hq⟩ d_Bt_wayNumbered_16 hc hs
def wp_Bt_wayNumbered (e0 : Nat) (x0 : Nat) (x1 : Int32) (w : Wd) (Q : Option Nat → Wd → Prop) : Prop :=
  (¬ x1 = (1 : Int32) → (bw_is w x0 0 ∧ (wb_Bt_wayNumbered_16 e0 Q (some x0) x1 (wR w x0 7) w))) ∧ (¬ ¬ x1 = (1 : Int32) → (bw_is w x0 0 ∧ (wb_Bt_wayNumbered_16 e0 Q (some x0) x1 (wR w x0 8) w)))
set_option maxHeartbeats 4000000 in
set_option maxRecDepth 100000 in
theorem k_Bt_wayNumbered_0 {p : Program} {l : Launch} {e : Env} {s : State} {m : MethodId} {args : Array Value} {below : List Frame} {meth : Method} {c : Code} {D : va_G} {AC : Nat → ClassId} {e0 mi : Nat} {A : Nat → Prop} {mc ms : Nat} {Q : Option Nat → Wd → Prop} (C : Cx p l s m args meth c D AC e0 mi A n_Bt_wayNumbered b_Bt_wayNumbered 2 (some (.object "BeltRows$Way"))) (x0 : Nat) (x1 : Int32) (w : Wd) (hq : wp_Bt_wayNumbered e0 x0 x1 w Q) : ∀ (H : Heap) (locs : List Loc) (cells slots : Nat) (ls : Array Slot), HW D cls8 FTc AC A s.heap H locs w → lv_has ls 2 [(0, va_rf (some x0)), (1, .int x1)] → cells ≤ mc → slots ≤ ms → W p l e { frames := 0, cells := mc, slots := ms, locals := 0 } s m args below meth c H locs cells slots (vx_MQ below (QQ D AC A (fun v w9 => ∃ r9 : Option Nat, v = some (va_rf r9) ∧ Q r9 w9)) (XX D AC A (fun _ _ => False)) args s mc ms A) (F0 m 0 ls []) := by
  obtain ⟨hl0, hx, hb, hr, ht, hown, hlocks, hnm, hml, hex, hK, hA, hZ, hV⟩ := id C
  intro H locs cells slots ls hW hl hc hs
  unfold wp_Bt_wayNumbered at hq
  refine lv_iload_n hx hb d_Bt_wayNumbered_0 rfl (lv_at hl 1 rfl) ?_
  refine lv_iconst (v := 1) hx hb d_Bt_wayNumbered_1 (by decide) ?_
  refine lv_icmp_ne (tgt := 12) hx hb d_Bt_wayNumbered_2 (by decide) (fun c1 => ?_) (fun c1 => ?_)
  · have hq := hq.1 c1
    refine bw_aload_n hx hb d_Bt_wayNumbered_12 rfl (lv_at hl 0 rfl) ?_
    obtain ⟨t2, hq⟩ := hq
    refine bw_getR hx hb ht in_Bt hown hK hW rfl t2 (by decide) rfl 7 (by decide) rfl (ht _ m_253) (fun _ h => h) d_Bt_wayNumbered_13 ?_
    exact k_Bt_wayNumbered_16 C  _ _ _ _ hq _ _ _ _ _ hW (lv_sub hl [0, 1] rfl) hc hs
  · have hq := hq.2 c1
    refine bw_aload_n hx hb d_Bt_wayNumbered_5 rfl (lv_at hl 0 rfl) ?_
    obtain ⟨t3, hq⟩ := hq
    refine bw_getR hx hb ht in_Bt hown hK hW rfl t3 (by decide) rfl 8 (by decide) rfl (ht _ m_254) (fun _ h => h) d_Bt_wayNumbered_6 ?_
    refine lv_goto (tgt := 16) hx hb d_Bt_wayNumbered_9 (by decide) ?_
    exact k_Bt_wayNumbered_16 C  _ _ _ _ hq _ _ _ _ _ hW (lv_sub hl [0, 1] rfl) hc hs
theorem ci_Bt_wayNumbered : CI n_Bt_wayNumbered b_Bt_wayNumbered 2 (some (.object "BeltRows$Way")) 1 := ⟨m_366, m_11, by decide, by decide, by decide +kernel⟩
theorem c_Bt_wayNumbered {l : Launch} {D : va_G} {AC : Nat → ClassId} {e0 mi : Nat} {Q : Option Nat → Wd → Prop} (hl0 : l.stackTraces = false) (x0 : Nat) (x1 : Int32) (w : Wd) (hq : wp_Bt_wayNumbered e0 x0 x1 w Q) : Ct l D AC e0 mi n_Bt_wayNumbered (wy n_Bt_wayNumbered b_Bt_wayNumbered 2 (some (.object "BeltRows$Way"))) 0 0 [va_rf (some x0), .int x1] w 0 0 (fun v w9 => ∃ r9 : Option Nat, v = some (va_rf r9) ∧ Q r9 w9) (fun _ _ => False) :=
  Ct.of hl0 (by decide) (by simp [lg_sl, bw_cat, cat_i, cat_j]) (fun p e s m args below meth c A ls C hW hl => k_Bt_wayNumbered_0 C x0 x1 w hq s.heap [] 0 0 ls hW (by simpa [lv_args, bw_cat, cat_i, cat_j] using hl) (Nat.le_refl _) (Nat.le_refl _))
def wb_Bt_itemAtEnd_29 (e0 : Nat) (Q : Option Nat → Wd → Prop) (x0 : Option Nat) (z0 : Option Nat) (w : Wd) : Prop :=
  Q z0 w
set_option maxHeartbeats 4000000 in
set_option maxRecDepth 100000 in
theorem k_Bt_itemAtEnd_29 {p : Program} {l : Launch} {e : Env} {s : State} {m : MethodId} {args : Array Value} {below : List Frame} {meth : Method} {c : Code} {D : va_G} {AC : Nat → ClassId} {e0 mi : Nat} {A : Nat → Prop} {mc ms : Nat} {Q : Option Nat → Wd → Prop} (C : Cx p l s m args meth c D AC e0 mi A n_Bt_itemAtEnd b_Bt_itemAtEnd 1 (some (.object "BeltRows$Item"))) (x0 : Option Nat) (z0 : Option Nat) (w : Wd) (hq : wb_Bt_itemAtEnd_29 e0 Q x0 z0 w) : ∀ (H : Heap) (locs : List Loc) (cells slots : Nat) (ls : Array Slot), HW D cls8 FTc AC A s.heap H locs w → lv_has ls 1 [(0, va_rf x0)] → cells ≤ mc → slots ≤ ms → W p l e { frames := 0, cells := mc, slots := ms, locals := 0 } s m args below meth c H locs cells slots (vx_MQ below (QQ D AC A (fun v w9 => ∃ r9 : Option Nat, v = some (va_rf r9) ∧ Q r9 w9)) (XX D AC A (fun _ _ => False)) args s mc ms A) (F0 m 29 ls [va_rf z0]) := by
  obtain ⟨hl0, hx, hb, hr, ht, hown, hlocks, hnm, hml, hex, hK, hA, hZ, hV⟩ := id C
  intro H locs cells slots ls hW hl hc hs
  unfold wb_Bt_itemAtEnd_29 at hq
  exact bw_aret C (Or.inl ⟨_, rfl⟩) hW ⟨_, rfl, hq⟩ d_Bt_itemAtEnd_29 hc hs
def wb_Bt_itemAtEnd_28 (e0 : Nat) (Q : Option Nat → Wd → Prop) (x0 : Option Nat) (w : Wd) : Prop :=
  wb_Bt_itemAtEnd_29 e0 Q x0 none w
set_option maxHeartbeats 4000000 in
set_option maxRecDepth 100000 in
theorem k_Bt_itemAtEnd_28 {p : Program} {l : Launch} {e : Env} {s : State} {m : MethodId} {args : Array Value} {below : List Frame} {meth : Method} {c : Code} {D : va_G} {AC : Nat → ClassId} {e0 mi : Nat} {A : Nat → Prop} {mc ms : Nat} {Q : Option Nat → Wd → Prop} (C : Cx p l s m args meth c D AC e0 mi A n_Bt_itemAtEnd b_Bt_itemAtEnd 1 (some (.object "BeltRows$Item"))) (x0 : Option Nat) (w : Wd) (hq : wb_Bt_itemAtEnd_28 e0 Q x0 w) : ∀ (H : Heap) (locs : List Loc) (cells slots : Nat) (ls : Array Slot), HW D cls8 FTc AC A s.heap H locs w → lv_has ls 1 [(0, va_rf x0)] → cells ≤ mc → slots ≤ ms → W p l e { frames := 0, cells := mc, slots := ms, locals := 0 } s m args below meth c H locs cells slots (vx_MQ below (QQ D AC A (fun v w9 => ∃ r9 : Option Nat, v = some (va_rf r9) ∧ Q r9 w9)) (XX D AC A (fun _ _ => False)) args s mc ms A) (F0 m 28 ls []) := by
  obtain ⟨hl0, hx, hb, hr, ht, hown, hlocks, hnm, hml, hex, hK, hA, hZ, hV⟩ := id C
  intro H locs cells slots ls hW hl hc hs
  unfold wb_Bt_itemAtEnd_28 at hq
  refine bw_null hx hb d_Bt_itemAtEnd_28 ?_
  exact k_Bt_itemAtEnd_29 C  _ _ _ hq _ _ _ _ _ hW (lv_sub hl [0] rfl) hc hs
def wp_Bt_itemAtEnd (e0 : Nat) (x0 : Nat) (w : Wd) (Q : Option Nat → Wd → Prop) : Prop :=
  bw_is w x0 0 ∧ (((wR w x0 4) = none → (wb_Bt_itemAtEnd_28 e0 Q (some x0) w)) ∧ (¬ (wR w x0 4) = none → (∃ a3 : Nat, (wR w x0 4) = some a3 ∧ (bw_is w a3 2 ∧ ((¬ (wI w a3 7) = (wI w x0 1) → (wb_Bt_itemAtEnd_28 e0 Q (some x0) w)) ∧ (¬ ¬ (wI w a3 7) = (wI w x0 1) → (wb_Bt_itemAtEnd_29 e0 Q (some x0) (wR w x0 4) w)))))))
set_option maxHeartbeats 4000000 in
set_option maxRecDepth 100000 in
theorem k_Bt_itemAtEnd_0 {p : Program} {l : Launch} {e : Env} {s : State} {m : MethodId} {args : Array Value} {below : List Frame} {meth : Method} {c : Code} {D : va_G} {AC : Nat → ClassId} {e0 mi : Nat} {A : Nat → Prop} {mc ms : Nat} {Q : Option Nat → Wd → Prop} (C : Cx p l s m args meth c D AC e0 mi A n_Bt_itemAtEnd b_Bt_itemAtEnd 1 (some (.object "BeltRows$Item"))) (x0 : Nat) (w : Wd) (hq : wp_Bt_itemAtEnd e0 x0 w Q) : ∀ (H : Heap) (locs : List Loc) (cells slots : Nat) (ls : Array Slot), HW D cls8 FTc AC A s.heap H locs w → lv_has ls 1 [(0, va_rf (some x0))] → cells ≤ mc → slots ≤ ms → W p l e { frames := 0, cells := mc, slots := ms, locals := 0 } s m args below meth c H locs cells slots (vx_MQ below (QQ D AC A (fun v w9 => ∃ r9 : Option Nat, v = some (va_rf r9) ∧ Q r9 w9)) (XX D AC A (fun _ _ => False)) args s mc ms A) (F0 m 0 ls []) := by
  obtain ⟨hl0, hx, hb, hr, ht, hown, hlocks, hnm, hml, hex, hK, hA, hZ, hV⟩ := id C
  intro H locs cells slots ls hW hl hc hs
  unfold wp_Bt_itemAtEnd at hq
  refine bw_aload_n hx hb d_Bt_itemAtEnd_0 rfl (lv_at hl 0 rfl) ?_
  obtain ⟨t1, hq⟩ := hq
  refine bw_getR hx hb ht in_Bt hown hK hW rfl t1 (by decide) rfl 4 (by decide) rfl (ht _ m_247) (fun _ h => h) d_Bt_itemAtEnd_1 ?_
  refine bw_ifnull (tgt := 28) hx hb d_Bt_itemAtEnd_4 (by decide) (fun c2 => ?_) (fun c2 => ?_)
  · have hq := hq.1 c2
    exact k_Bt_itemAtEnd_28 C  _ _ hq _ _ _ _ _ hW (lv_sub hl [0] rfl) hc hs
  · have hq := hq.2 c2
    refine bw_aload_n hx hb d_Bt_itemAtEnd_7 rfl (lv_at hl 0 rfl) ?_
    refine bw_getR hx hb ht in_Bt hown hK hW rfl t1 (by decide) rfl 4 (by decide) rfl (ht _ m_247) (fun _ h => h) d_Bt_itemAtEnd_8 ?_
    obtain ⟨a3, ea3, hq⟩ := hq
    obtain ⟨t4, hq⟩ := hq
    refine bw_getI hx hb ht in_It hown hK hW ea3 t4 (by decide) rfl 7 (by decide) rfl (ht _ m_459) (fun _ h => h) d_Bt_itemAtEnd_11 ?_
    refine bw_aload_n hx hb d_Bt_itemAtEnd_14 rfl (lv_at hl 0 rfl) ?_
    refine bw_getI hx hb ht in_Bt hown hK hW rfl t1 (by decide) rfl 1 (by decide) rfl (ht _ m_239) (fun _ h => h) d_Bt_itemAtEnd_15 ?_
    refine lv_icmp_ne (tgt := 28) hx hb d_Bt_itemAtEnd_18 (by decide) (fun c5 => ?_) (fun c5 => ?_)
    · have hq := hq.1 c5
      exact k_Bt_itemAtEnd_28 C  _ _ hq _ _ _ _ _ hW (lv_sub hl [0] rfl) hc hs
    · have hq := hq.2 c5
      refine bw_aload_n hx hb d_Bt_itemAtEnd_21 rfl (lv_at hl 0 rfl) ?_
      refine bw_getR hx hb ht in_Bt hown hK hW rfl t1 (by decide) rfl 4 (by decide) rfl (ht _ m_247) (fun _ h => h) d_Bt_itemAtEnd_22 ?_
      refine lv_goto (tgt := 29) hx hb d_Bt_itemAtEnd_25 (by decide) ?_
      exact k_Bt_itemAtEnd_29 C  _ _ _ hq _ _ _ _ _ hW (lv_sub hl [0] rfl) hc hs
theorem ci_Bt_itemAtEnd : CI n_Bt_itemAtEnd b_Bt_itemAtEnd 1 (some (.object "BeltRows$Item")) 0 := ⟨m_575, m_11, by decide, by decide, by decide +kernel⟩
theorem c_Bt_itemAtEnd {l : Launch} {D : va_G} {AC : Nat → ClassId} {e0 mi : Nat} {Q : Option Nat → Wd → Prop} (hl0 : l.stackTraces = false) (x0 : Nat) (w : Wd) (hq : wp_Bt_itemAtEnd e0 x0 w Q) : Ct l D AC e0 mi n_Bt_itemAtEnd (wy n_Bt_itemAtEnd b_Bt_itemAtEnd 1 (some (.object "BeltRows$Item"))) 0 0 [va_rf (some x0)] w 0 0 (fun v w9 => ∃ r9 : Option Nat, v = some (va_rf r9) ∧ Q r9 w9) (fun _ _ => False) :=
  Ct.of hl0 (by decide) (by simp [lg_sl, bw_cat, cat_i, cat_j]) (fun p e s m args below meth c A ls C hW hl => k_Bt_itemAtEnd_0 C x0 w hq s.heap [] 0 0 ls hW (by simpa [lv_args, bw_cat, cat_i, cat_j] using hl) (Nat.le_refl _) (Nat.le_refl _))
