/-! printed by wip/gen/walk.py out of the bytecode: Bc_init Bl_init Al_init Al_size Al_elementData Pr_checkIndex Ob_checkIndex Al_get Au_hugeLength Au_newLength As_copyOf2 As_copyOf Al_grow2 Al_grow Al_add2 Al_add Al_set Al_fastRemove Al_remove -/
def wp_Bc_init (e0 mi : Nat) (x0 : Nat) (w : Wd) (Q : Wd → Prop) : Prop :=
  Q w
set_option maxHeartbeats 4000000 in
set_option maxRecDepth 100000 in
theorem k_Bc_init_0 {p : Program} {l : Launch} {e : Env} {s : State} {m : MethodId} {args : Array Value} {below : List Frame} {meth : Method} {c : Code} {D : va_G} {AC : Nat → ClassId} {e0 mi : Nat} {A : Nat → Prop} {mc ms : Nat} {Q : Wd → Prop} (C : Cx p l s m args meth c D AC e0 mi A n_Bc_init b_Bc_init 1 none) (x0 : Nat) (w : Wd) (hq : wp_Bc_init e0 mi x0 w Q) : ∀ (H : Heap) (locs : List Loc) (cells slots : Nat) (ls : Array Slot), HW D cls8 FTc AC A s.heap H locs w → lv_has ls 1 [(0, va_rf (some x0))] → cells ≤ mc → slots ≤ ms → W p l e { frames := 1, cells := mc, slots := ms, locals := 40 } s m args below meth c H locs cells slots (vx_MQ below (QQ D AC A (fun v w9 => v = none ∧ Q w9)) (XX D AC A (fun _ _ => False)) args s mc ms A) (F0 m 0 ls []) := by
  obtain ⟨hl0, hx, hb, hr, ht, hown, hlocks, hnm, hml, hex, hK, hA, hZ, hV⟩ := id C
  intro H locs cells slots ls hW hl hc hs
  unfold wp_Bc_init at hq
  refine bw_aload_n hx hb d_Bc_init_0 rfl (lv_at hl 0 rfl) ?_
  refine W.objInit hx hb hown (ht _ m_44) (ht _ m_31) (ht _ m_32) rfl (by rw [hml]; exact hl.1) rfl d_Bc_init_1 (Nat.le_of_ble_eq_true rfl) (Nat.le_of_ble_eq_true rfl) ?_
  refine W.eq (g2 := F0 m 4 ls []) rfl ?_
  exact bw_vret C hW ⟨rfl, hq⟩ d_Bc_init_4 hc hs
theorem ci_Bc_init : CI n_Bc_init b_Bc_init 1 none 0 := ⟨m_43, m_2, by decide, by decide, by decide +kernel⟩
theorem c_Bc_init {l : Launch} {D : va_G} {AC : Nat → ClassId} {e0 mi : Nat} {Q : Wd → Prop} (hl0 : l.stackTraces = false) (x0 : Nat) (w : Wd) (hq : wp_Bc_init e0 mi x0 w Q) : Ct l D AC e0 mi n_Bc_init (wy n_Bc_init b_Bc_init 1 none) 1 40 [va_rf (some x0)] w 0 0 (fun v w9 => v = none ∧ Q w9) (fun _ _ => False) :=
  Ct.of hl0 (by decide) (by simp [lg_sl, bw_cat, cat_i, cat_j]) (fun p e s m args below meth c A ls C hW hl => k_Bc_init_0 C x0 w hq s.heap [] 0 0 ls hW (by simpa [lv_args, bw_cat, cat_i, cat_j] using hl) (Nat.le_refl _) (Nat.le_refl _))
def wp_Bl_init (e0 mi : Nat) (x0 : Nat) (w : Wd) (Q : Wd → Prop) : Prop :=
  wp_Bc_init e0 mi x0 w (fun w2 => bw_is w2 x0 7 ∧ (Q (sI w2 x0 0 (0 : Int32))))
set_option maxHeartbeats 4000000 in
set_option maxRecDepth 100000 in
theorem k_Bl_init_0 {p : Program} {l : Launch} {e : Env} {s : State} {m : MethodId} {args : Array Value} {below : List Frame} {meth : Method} {c : Code} {D : va_G} {AC : Nat → ClassId} {e0 mi : Nat} {A : Nat → Prop} {mc ms : Nat} {Q : Wd → Prop} (C : Cx p l s m args meth c D AC e0 mi A n_Bl_init b_Bl_init 1 none) (x0 : Nat) (w : Wd) (hq : wp_Bl_init e0 mi x0 w Q) : ∀ (H : Heap) (locs : List Loc) (cells slots : Nat) (ls : Array Slot), HW D cls8 FTc AC A s.heap H locs w → lv_has ls 1 [(0, va_rf (some x0))] → cells ≤ mc → slots ≤ ms → W p l e { frames := 2, cells := mc, slots := ms, locals := 60 } s m args below meth c H locs cells slots (vx_MQ below (QQ D AC A (fun v w9 => v = none ∧ Q w9)) (XX D AC A (fun _ _ => False)) args s mc ms A) (F0 m 0 ls []) := by
  obtain ⟨hl0, hx, hb, hr, ht, hown, hlocks, hnm, hml, hex, hK, hA, hZ, hV⟩ := id C
  intro H locs cells slots ls hW hl hc hs
  unfold wp_Bl_init at hq
  refine bw_aload_n hx hb d_Bl_init_0 rfl (lv_at hl 0 rfl) ?_
  refine bw_callI (As := []) (rest := []) C hW ci_Bc_init rfl m_41 m_42 d_Bl_init_1 rfl rfl hl.1 (by decide) ⟨Nat.le_of_ble_eq_true rfl, Nat.le_of_ble_eq_true rfl⟩ ⟨hc, hs⟩ (c_Bc_init hl0 _ _ hq) (fun v1 w2 H locs hv hW => ?_)
  obtain ⟨rfl, hq⟩ := hv
  refine W.eq (g2 := F0 m 4 ls []) rfl ?_
  refine bw_aload_n hx hb d_Bl_init_4 rfl (lv_at hl 0 rfl) ?_
  refine lv_iconst (v := 0) hx hb d_Bl_init_5 (by decide) ?_
  obtain ⟨t8, hq⟩ := hq
  refine bw_putI hx hb ht in_Al y_Al yk_Al nm_Al hown hK hW rfl t8 (by decide) rfl 0 (by decide) rfl (ht _ m_49) (fun _ h => h) (Or.inl rfl) rfl rfl d_Bl_init_6 (fun H locs hW => ?_)
  exact bw_vret C hW ⟨rfl, hq⟩ d_Bl_init_9 hc hs
theorem ci_Bl_init : CI n_Bl_init b_Bl_init 1 none 0 := ⟨m_40, m_3, by decide, by decide, by decide +kernel⟩
theorem c_Bl_init {l : Launch} {D : va_G} {AC : Nat → ClassId} {e0 mi : Nat} {Q : Wd → Prop} (hl0 : l.stackTraces = false) (x0 : Nat) (w : Wd) (hq : wp_Bl_init e0 mi x0 w Q) : Ct l D AC e0 mi n_Bl_init (wy n_Bl_init b_Bl_init 1 none) 2 60 [va_rf (some x0)] w 0 0 (fun v w9 => v = none ∧ Q w9) (fun _ _ => False) :=
  Ct.of hl0 (by decide) (by simp [lg_sl, bw_cat, cat_i, cat_j]) (fun p e s m args below meth c A ls C hW hl => k_Bl_init_0 C x0 w hq s.heap [] 0 0 ls hW (by simpa [lv_args, bw_cat, cat_i, cat_j] using hl) (Nat.le_refl _) (Nat.le_refl _))
def wp_Al_init (e0 mi : Nat) (x0 : Nat) (w : Wd) (Q : Wd → Prop) : Prop :=
  wp_Bl_init e0 mi x0 w (fun w2 => bw_is w2 x0 7 ∧ (Q (sR w2 x0 1 (some e0))))
set_option maxHeartbeats 4000000 in
set_option maxRecDepth 100000 in
theorem k_Al_init_0 {p : Program} {l : Launch} {e : Env} {s : State} {m : MethodId} {args : Array Value} {below : List Frame} {meth : Method} {c : Code} {D : va_G} {AC : Nat → ClassId} {e0 mi : Nat} {A : Nat → Prop} {mc ms : Nat} {Q : Wd → Prop} (C : Cx p l s m args meth c D AC e0 mi A n_Al_init b_Al_init 1 none) (x0 : Nat) (w : Wd) (hq : wp_Al_init e0 mi x0 w Q) : ∀ (H : Heap) (locs : List Loc) (cells slots : Nat) (ls : Array Slot), HW D cls8 FTc AC A s.heap H locs w → lv_has ls 1 [(0, va_rf (some x0))] → cells ≤ mc → slots ≤ ms → W p l e { frames := 3, cells := mc, slots := ms, locals := 80 } s m args below meth c H locs cells slots (vx_MQ below (QQ D AC A (fun v w9 => v = none ∧ Q w9)) (XX D AC A (fun _ _ => False)) args s mc ms A) (F0 m 0 ls []) := by
  obtain ⟨hl0, hx, hb, hr, ht, hown, hlocks, hnm, hml, hex, hK, hA, hZ, hV⟩ := id C
  intro H locs cells slots ls hW hl hc hs
  unfold wp_Al_init at hq
  refine bw_aload_n hx hb d_Al_init_0 rfl (lv_at hl 0 rfl) ?_
  refine bw_callI (As := []) (rest := []) C hW ci_Bl_init rfl m_38 m_39 d_Al_init_1 rfl rfl hl.1 (by decide) ⟨Nat.le_of_ble_eq_true rfl, Nat.le_of_ble_eq_true rfl⟩ ⟨hc, hs⟩ (c_Bl_init hl0 _ _ hq) (fun v1 w2 H locs hv hW => ?_)
  obtain ⟨rfl, hq⟩ := hv
  refine W.eq (g2 := F0 m 4 ls []) rfl ?_
  refine bw_aload_n hx hb d_Al_init_4 rfl (lv_at hl 0 rfl) ?_
  refine va_gets hx hb hZ.2.2.1 hW.2.2 hown (ht _ m_45) (fun _ h => h) d_Al_init_5 ?_
  refine W.eq (g2 := F0 m 8 ls [va_rf (some e0), va_rf (some x0)]) rfl ?_
  obtain ⟨t8, hq⟩ := hq
  refine bw_putR hx hb ht in_Al y_Al yk_Al nm_Al hown hK hW rfl t8 (by decide) rfl 1 (by decide) rfl (ht _ m_47) (fun _ h => h) (Or.inl rfl) (bw_nra _ _) (bw_fra _ _) d_Al_init_8 (fun H locs hW => ?_)
  exact bw_vret C hW ⟨rfl, hq⟩ d_Al_init_11 hc hs
theorem ci_Al_init : CI n_Al_init b_Al_init 1 none 0 := ⟨m_37, m_4, by decide, by decide, by decide +kernel⟩
theorem c_Al_init {l : Launch} {D : va_G} {AC : Nat → ClassId} {e0 mi : Nat} {Q : Wd → Prop} (hl0 : l.stackTraces = false) (x0 : Nat) (w : Wd) (hq : wp_Al_init e0 mi x0 w Q) : Ct l D AC e0 mi n_Al_init (wy n_Al_init b_Al_init 1 none) 3 80 [va_rf (some x0)] w 0 0 (fun v w9 => v = none ∧ Q w9) (fun _ _ => False) :=
  Ct.of hl0 (by decide) (by simp [lg_sl, bw_cat, cat_i, cat_j]) (fun p e s m args below meth c A ls C hW hl => k_Al_init_0 C x0 w hq s.heap [] 0 0 ls hW (by simpa [lv_args, bw_cat, cat_i, cat_j] using hl) (Nat.le_refl _) (Nat.le_refl _))
def wp_Al_size (e0 mi : Nat) (x0 : Nat) (w : Wd) (Q : Int32 → Wd → Prop) : Prop :=
  bw_is w x0 7 ∧ (Q (wI w x0 2) w)
set_option maxHeartbeats 4000000 in
set_option maxRecDepth 100000 in
theorem k_Al_size_0 {p : Program} {l : Launch} {e : Env} {s : State} {m : MethodId} {args : Array Value} {below : List Frame} {meth : Method} {c : Code} {D : va_G} {AC : Nat → ClassId} {e0 mi : Nat} {A : Nat → Prop} {mc ms : Nat} {Q : Int32 → Wd → Prop} (C : Cx p l s m args meth c D AC e0 mi A n_Al_size b_Al_size 1 (some .int)) (x0 : Nat) (w : Wd) (hq : wp_Al_size e0 mi x0 w Q) : ∀ (H : Heap) (locs : List Loc) (cells slots : Nat) (ls : Array Slot), HW D cls8 FTc AC A s.heap H locs w → lv_has ls 1 [(0, va_rf (some x0))] → cells ≤ mc → slots ≤ ms → W p l e { frames := 0, cells := mc, slots := ms, locals := 0 } s m args below meth c H locs cells slots (vx_MQ below (QQ D AC A (fun v w9 => ∃ r9 : Int32, v = some (.int r9) ∧ Q r9 w9)) (XX D AC A (fun _ _ => False)) args s mc ms A) (F0 m 0 ls []) := by
  obtain ⟨hl0, hx, hb, hr, ht, hown, hlocks, hnm, hml, hex, hK, hA, hZ, hV⟩ := id C
  intro H locs cells slots ls hW hl hc hs
  unfold wp_Al_size at hq
  refine bw_aload_n hx hb d_Al_size_0 rfl (lv_at hl 0 rfl) ?_
  obtain ⟨t1, hq⟩ := hq
  refine bw_getI hx hb ht in_Al hown hK hW rfl t1 (by decide) rfl 2 (by decide) rfl (ht _ m_48) (fun _ h => h) d_Al_size_1 ?_
  exact bw_iret C hW ⟨_, rfl, hq⟩ d_Al_size_4 hc hs
theorem ci_Al_size : CI n_Al_size b_Al_size 1 (some .int) 0 := ⟨m_94, m_4, by decide, by decide, by decide +kernel⟩
theorem c_Al_size {l : Launch} {D : va_G} {AC : Nat → ClassId} {e0 mi : Nat} {Q : Int32 → Wd → Prop} (hl0 : l.stackTraces = false) (x0 : Nat) (w : Wd) (hq : wp_Al_size e0 mi x0 w Q) : Ct l D AC e0 mi n_Al_size (wy n_Al_size b_Al_size 1 (some .int)) 0 0 [va_rf (some x0)] w 0 0 (fun v w9 => ∃ r9 : Int32, v = some (.int r9) ∧ Q r9 w9) (fun _ _ => False) :=
  Ct.of hl0 (by decide) (by simp [lg_sl, bw_cat, cat_i, cat_j]) (fun p e s m args below meth c A ls C hW hl => k_Al_size_0 C x0 w hq s.heap [] 0 0 ls hW (by simpa [lv_args, bw_cat, cat_i, cat_j] using hl) (Nat.le_refl _) (Nat.le_refl _))
def wp_Al_elementData (e0 mi : Nat) (x0 : Nat) (x1 : Int32) (w : Wd) (Q : Option Nat → Wd → Prop) : Prop :=
  bw_is w x0 7 ∧ (∃ a2 : Nat, (wR w x0 1) = some a2 ∧ (bw_is w a2 100 ∧ (vp_in x1 (wN w a2) ∧ (Q (wR w a2 x1.toNatClampNeg) w))))
set_option maxHeartbeats 4000000 in
set_option maxRecDepth 100000 in
theorem k_Al_elementData_0 {p : Program} {l : Launch} {e : Env} {s : State} {m : MethodId} {args : Array Value} {below : List Frame} {meth : Method} {c : Code} {D : va_G} {AC : Nat → ClassId} {e0 mi : Nat} {A : Nat → Prop} {mc ms : Nat} {Q : Option Nat → Wd → Prop} (C : Cx p l s m args meth c D AC e0 mi A n_Al_elementData b_Al_elementData 2 (some (.object "java/lang/Object"))) (x0 : Nat) (x1 : Int32) (w : Wd) (hq : wp_Al_elementData e0 mi x0 x1 w Q) : ∀ (H : Heap) (locs : List Loc) (cells slots : Nat) (ls : Array Slot), HW D cls8 FTc AC A s.heap H locs w → lv_has ls 2 [(0, va_rf (some x0)), (1, .int x1)] → cells ≤ mc → slots ≤ ms → W p l e { frames := 0, cells := mc, slots := ms, locals := 0 } s m args below meth c H locs cells slots (vx_MQ below (QQ D AC A (fun v w9 => ∃ r9 : Option Nat, v = some (va_rf r9) ∧ Q r9 w9)) (XX D AC A (fun _ _ => False)) args s mc ms A) (F0 m 0 ls []) := by
  obtain ⟨hl0, hx, hb, hr, ht, hown, hlocks, hnm, hml, hex, hK, hA, hZ, hV⟩ := id C
  intro H locs cells slots ls hW hl hc hs
  unfold wp_Al_elementData at hq
  refine bw_aload_n hx hb d_Al_elementData_0 rfl (lv_at hl 0 rfl) ?_
  obtain ⟨t1, hq⟩ := hq
  refine bw_getR hx hb ht in_Al hown hK hW rfl t1 (by decide) rfl 1 (by decide) rfl (ht _ m_47) (fun _ h => h) d_Al_elementData_1 ?_
  refine lv_iload_n hx hb d_Al_elementData_4 rfl (lv_at hl 1 rfl) ?_
  obtain ⟨a2, ea2, hq⟩ := hq
  obtain ⟨t3, hq⟩ := hq
  obtain ⟨h4, hq⟩ := hq
  refine bw_aald C hW ea2 t3 h4 d_Al_elementData_5 ?_
  exact bw_aret C (Or.inl ⟨_, rfl⟩) hW ⟨_, rfl, hq⟩ d_Al_elementData_6 hc hs
theorem ci_Al_elementData : CI n_Al_elementData b_Al_elementData 2 (some (.object "java/lang/Object")) 1 := ⟨m_112, m_4, by decide, by decide, by decide +kernel⟩
theorem c_Al_elementData {l : Launch} {D : va_G} {AC : Nat → ClassId} {e0 mi : Nat} {Q : Option Nat → Wd → Prop} (hl0 : l.stackTraces = false) (x0 : Nat) (x1 : Int32) (w : Wd) (hq : wp_Al_elementData e0 mi x0 x1 w Q) : Ct l D AC e0 mi n_Al_elementData (wy n_Al_elementData b_Al_elementData 2 (some (.object "java/lang/Object"))) 0 0 [va_rf (some x0), .int x1] w 0 0 (fun v w9 => ∃ r9 : Option Nat, v = some (va_rf r9) ∧ Q r9 w9) (fun _ _ => False) :=
  Ct.of hl0 (by decide) (by simp [lg_sl, bw_cat, cat_i, cat_j]) (fun p e s m args below meth c A ls C hW hl => k_Al_elementData_0 C x0 x1 w hq s.heap [] 0 0 ls hW (by simpa [lv_args, bw_cat, cat_i, cat_j] using hl) (Nat.le_refl _) (Nat.le_refl _))
def wb_Pr_checkIndex_9 (e0 mi : Nat) (Q : Int32 → Wd → Prop) (x0 : Int32) (x1 : Int32) (x2 : Option Nat) (w : Wd) : Prop :=
  False
set_option maxHeartbeats 4000000 in
set_option maxRecDepth 100000 in
theorem k_Pr_checkIndex_9 {p : Program} {l : Launch} {e : Env} {s : State} {m : MethodId} {args : Array Value} {below : List Frame} {meth : Method} {c : Code} {D : va_G} {AC : Nat → ClassId} {e0 mi : Nat} {A : Nat → Prop} {mc ms : Nat} {Q : Int32 → Wd → Prop} (C : Cx p l s m args meth c D AC e0 mi A n_Pr_checkIndex b_Pr_checkIndex 3 (some .int)) (x0 : Int32) (x1 : Int32) (x2 : Option Nat) (w : Wd) (hq : wb_Pr_checkIndex_9 e0 mi Q x0 x1 x2 w) : ∀ (H : Heap) (locs : List Loc) (cells slots : Nat) (ls : Array Slot), HW D cls8 FTc AC A s.heap H locs w → lv_has ls 3 [(0, .int x0), (1, .int x1), (2, va_rf x2)] → cells ≤ mc → slots ≤ ms → W p l e { frames := 0, cells := mc, slots := ms, locals := 0 } s m args below meth c H locs cells slots (vx_MQ below (QQ D AC A (fun v w9 => ∃ r9 : Int32, v = some (.int r9) ∧ Q r9 w9)) (XX D AC A (fun _ _ => False)) args s mc ms A) (F0 m 9 ls []) := by
  obtain ⟨hl0, hx, hb, hr, ht, hown, hlocks, hnm, hml, hex, hK, hA, hZ, hV⟩ := id C
  intro H locs cells slots ls hW hl hc hs
  unfold wb_Pr_checkIndex_9 at hq
  refine bw_aload_n hx hb d_Pr_checkIndex_9 rfl (lv_at hl 2 rfl) ?_
  refine lv_iload_n hx hb d_Pr_checkIndex_10 rfl (lv_at hl 0 rfl) ?_
  refine lv_iload_n hx hb d_Pr_checkIndex_11 rfl (lv_at hl 1 rfl) ?_
  exact hq.elim
def wp_Pr_checkIndex (e0 mi : Nat) (x0 : Int32) (x1 : Int32) (x2 : Option Nat) (w : Wd) (Q : Int32 → Wd → Prop) : Prop :=
  (x0 < 0 → (wb_Pr_checkIndex_9 e0 mi Q x0 x1 x2 w)) ∧ (¬ x0 < 0 → ((x0 < x1 → (Q x0 w)) ∧ (¬ x0 < x1 → (wb_Pr_checkIndex_9 e0 mi Q x0 x1 x2 w))))
set_option maxHeartbeats 4000000 in
set_option maxRecDepth 100000 in
theorem k_Pr_checkIndex_0 {p : Program} {l : Launch} {e : Env} {s : State} {m : MethodId} {args : Array Value} {below : List Frame} {meth : Method} {c : Code} {D : va_G} {AC : Nat → ClassId} {e0 mi : Nat} {A : Nat → Prop} {mc ms : Nat} {Q : Int32 → Wd → Prop} (C : Cx p l s m args meth c D AC e0 mi A n_Pr_checkIndex b_Pr_checkIndex 3 (some .int)) (x0 : Int32) (x1 : Int32) (x2 : Option Nat) (w : Wd) (hq : wp_Pr_checkIndex e0 mi x0 x1 x2 w Q) : ∀ (H : Heap) (locs : List Loc) (cells slots : Nat) (ls : Array Slot), HW D cls8 FTc AC A s.heap H locs w → lv_has ls 3 [(0, .int x0), (1, .int x1), (2, va_rf x2)] → cells ≤ mc → slots ≤ ms → W p l e { frames := 0, cells := mc, slots := ms, locals := 0 } s m args below meth c H locs cells slots (vx_MQ below (QQ D AC A (fun v w9 => ∃ r9 : Int32, v = some (.int r9) ∧ Q r9 w9)) (XX D AC A (fun _ _ => False)) args s mc ms A) (F0 m 0 ls []) := by
  obtain ⟨hl0, hx, hb, hr, ht, hown, hlocks, hnm, hml, hex, hK, hA, hZ, hV⟩ := id C
  intro H locs cells slots ls hW hl hc hs
  unfold wp_Pr_checkIndex at hq
  refine lv_iload_n hx hb d_Pr_checkIndex_0 rfl (lv_at hl 0 rfl) ?_
  refine lv_if_lt (tgt := 9) hx hb d_Pr_checkIndex_1 (by decide) (fun c1 => ?_) (fun c1 => ?_)
  · have hq := hq.1 c1
    exact k_Pr_checkIndex_9 C  _ _ _ _ hq _ _ _ _ _ hW (lv_sub hl [0, 1, 2] rfl) hc hs
  · have hq := hq.2 c1
    refine lv_iload_n hx hb d_Pr_checkIndex_4 rfl (lv_at hl 0 rfl) ?_
    refine lv_iload_n hx hb d_Pr_checkIndex_5 rfl (lv_at hl 1 rfl) ?_
    refine lv_icmp_lt (tgt := 16) hx hb d_Pr_checkIndex_6 (by decide) (fun c2 => ?_) (fun c2 => ?_)
    · have hq := hq.1 c2
      refine lv_iload_n hx hb d_Pr_checkIndex_16 rfl (lv_at hl 0 rfl) ?_
      exact bw_iret C hW ⟨_, rfl, hq⟩ d_Pr_checkIndex_17 hc hs
    · have hq := hq.2 c2
      exact k_Pr_checkIndex_9 C  _ _ _ _ hq _ _ _ _ _ hW (lv_sub hl [0, 1, 2] rfl) hc hs
theorem ci_Pr_checkIndex : CI n_Pr_checkIndex b_Pr_checkIndex 3 (some .int) 3 := ⟨m_108, m_19, by decide, by decide, by decide +kernel⟩
theorem c_Pr_checkIndex {l : Launch} {D : va_G} {AC : Nat → ClassId} {e0 mi : Nat} {Q : Int32 → Wd → Prop} (hl0 : l.stackTraces = false) (x0 : Int32) (x1 : Int32) (x2 : Option Nat) (w : Wd) (hq : wp_Pr_checkIndex e0 mi x0 x1 x2 w Q) : Ct l D AC e0 mi n_Pr_checkIndex (wy n_Pr_checkIndex b_Pr_checkIndex 3 (some .int)) 0 0 [.int x0, .int x1, va_rf x2] w 0 0 (fun v w9 => ∃ r9 : Int32, v = some (.int r9) ∧ Q r9 w9) (fun _ _ => False) :=
  Ct.of hl0 (by decide) (by simp [lg_sl, bw_cat, cat_i, cat_j]) (fun p e s m args below meth c A ls C hW hl => k_Pr_checkIndex_0 C x0 x1 x2 w hq s.heap [] 0 0 ls hW (by simpa [lv_args, bw_cat, cat_i, cat_j] using hl) (Nat.le_refl _) (Nat.le_refl _))
def wp_Ob_checkIndex (e0 mi : Nat) (x0 : Int32) (x1 : Int32) (w : Wd) (Q : Int32 → Wd → Prop) : Prop :=
  wp_Pr_checkIndex e0 mi x0 x1 none w (fun i7 w2 => Q i7 w2)
set_option maxHeartbeats 4000000 in
set_option maxRecDepth 100000 in
theorem k_Ob_checkIndex_0 {p : Program} {l : Launch} {e : Env} {s : State} {m : MethodId} {args : Array Value} {below : List Frame} {meth : Method} {c : Code} {D : va_G} {AC : Nat → ClassId} {e0 mi : Nat} {A : Nat → Prop} {mc ms : Nat} {Q : Int32 → Wd → Prop} (C : Cx p l s m args meth c D AC e0 mi A n_Ob_checkIndex b_Ob_checkIndex 2 (some .int)) (x0 : Int32) (x1 : Int32) (w : Wd) (hq : wp_Ob_checkIndex e0 mi x0 x1 w Q) : ∀ (H : Heap) (locs : List Loc) (cells slots : Nat) (ls : Array Slot), HW D cls8 FTc AC A s.heap H locs w → lv_has ls 2 [(0, .int x0), (1, .int x1)] → cells ≤ mc → slots ≤ ms → W p l e { frames := 1, cells := mc, slots := ms, locals := 22 } s m args below meth c H locs cells slots (vx_MQ below (QQ D AC A (fun v w9 => ∃ r9 : Int32, v = some (.int r9) ∧ Q r9 w9)) (XX D AC A (fun _ _ => False)) args s mc ms A) (F0 m 0 ls []) := by
  obtain ⟨hl0, hx, hb, hr, ht, hown, hlocks, hnm, hml, hex, hK, hA, hZ, hV⟩ := id C
  intro H locs cells slots ls hW hl hc hs
  unfold wp_Ob_checkIndex at hq
  refine lv_iload_n hx hb d_Ob_checkIndex_0 rfl (lv_at hl 0 rfl) ?_
  refine lv_iload_n hx hb d_Ob_checkIndex_1 rfl (lv_at hl 1 rfl) ?_
  refine bw_null hx hb d_Ob_checkIndex_2 ?_
  refine bw_callS (As := [.int x0, .int x1, va_rf none]) (rest := []) C hW ci_Pr_checkIndex m_106 m_107 d_Ob_checkIndex_3 rfl rfl hl.1 (by decide) ⟨Nat.le_of_ble_eq_true rfl, Nat.le_of_ble_eq_true rfl⟩ ⟨hc, hs⟩ (c_Pr_checkIndex hl0 _ _ _ _ hq) (fun _ _ _ _ _ _ h => h.elim) (fun v1 w2 H locs hv hW => ?_)
  obtain ⟨i7, rfl, hq⟩ := hv
  refine W.eq (g2 := F0 m 6 ls [.int i7]) rfl ?_
  exact bw_iret C hW ⟨_, rfl, hq⟩ d_Ob_checkIndex_6 hc hs
theorem ci_Ob_checkIndex : CI n_Ob_checkIndex b_Ob_checkIndex 2 (some .int) 2 := ⟨m_105, m_18, by decide, by decide, by decide +kernel⟩
theorem c_Ob_checkIndex {l : Launch} {D : va_G} {AC : Nat → ClassId} {e0 mi : Nat} {Q : Int32 → Wd → Prop} (hl0 : l.stackTraces = false) (x0 : Int32) (x1 : Int32) (w : Wd) (hq : wp_Ob_checkIndex e0 mi x0 x1 w Q) : Ct l D AC e0 mi n_Ob_checkIndex (wy n_Ob_checkIndex b_Ob_checkIndex 2 (some .int)) 1 22 [.int x0, .int x1] w 0 0 (fun v w9 => ∃ r9 : Int32, v = some (.int r9) ∧ Q r9 w9) (fun _ _ => False) :=
  Ct.of hl0 (by decide) (by simp [lg_sl, bw_cat, cat_i, cat_j]) (fun p e s m args below meth c A ls C hW hl => k_Ob_checkIndex_0 C x0 x1 w hq s.heap [] 0 0 ls hW (by simpa [lv_args, bw_cat, cat_i, cat_j] using hl) (Nat.le_refl _) (Nat.le_refl _))
def wp_Al_get (e0 mi : Nat) (x0 : Nat) (x1 : Int32) (w : Wd) (Q : Option Nat → Wd → Prop) : Prop :=
  bw_is w x0 7 ∧ (wp_Ob_checkIndex e0 mi x1 (wI w x0 2) w (fun i8 w3 => bw_is w3 x0 7 ∧ (wp_Al_elementData e0 mi x0 x1 w3 (fun r16 w11 => Q r16 w11))))
set_option maxHeartbeats 4000000 in
set_option maxRecDepth 100000 in
theorem k_Al_get_0 {p : Program} {l : Launch} {e : Env} {s : State} {m : MethodId} {args : Array Value} {below : List Frame} {meth : Method} {c : Code} {D : va_G} {AC : Nat → ClassId} {e0 mi : Nat} {A : Nat → Prop} {mc ms : Nat} {Q : Option Nat → Wd → Prop} (C : Cx p l s m args meth c D AC e0 mi A n_Al_get b_Al_get 2 (some (.object "java/lang/Object"))) (x0 : Nat) (x1 : Int32) (w : Wd) (hq : wp_Al_get e0 mi x0 x1 w Q) : ∀ (H : Heap) (locs : List Loc) (cells slots : Nat) (ls : Array Slot), HW D cls8 FTc AC A s.heap H locs w → lv_has ls 2 [(0, va_rf (some x0)), (1, .int x1)] → cells ≤ mc → slots ≤ ms → W p l e { frames := 2, cells := mc, slots := ms, locals := 43 } s m args below meth c H locs cells slots (vx_MQ below (QQ D AC A (fun v w9 => ∃ r9 : Option Nat, v = some (va_rf r9) ∧ Q r9 w9)) (XX D AC A (fun _ _ => False)) args s mc ms A) (F0 m 0 ls []) := by
  obtain ⟨hl0, hx, hb, hr, ht, hown, hlocks, hnm, hml, hex, hK, hA, hZ, hV⟩ := id C
  intro H locs cells slots ls hW hl hc hs
  unfold wp_Al_get at hq
  refine lv_iload_n hx hb d_Al_get_0 rfl (lv_at hl 1 rfl) ?_
  refine bw_aload_n hx hb d_Al_get_1 rfl (lv_at hl 0 rfl) ?_
  obtain ⟨t1, hq⟩ := hq
  refine bw_getI hx hb ht in_Al hown hK hW rfl t1 (by decide) rfl 2 (by decide) rfl (ht _ m_48) (fun _ h => h) d_Al_get_2 ?_
  refine bw_callS (As := [.int x1, .int (wI w x0 2)]) (rest := []) C hW ci_Ob_checkIndex m_103 m_104 d_Al_get_5 rfl rfl hl.1 (by decide) ⟨Nat.le_of_ble_eq_true rfl, Nat.le_of_ble_eq_true rfl⟩ ⟨hc, hs⟩ (c_Ob_checkIndex hl0 _ _ _ hq) (fun _ _ _ _ _ _ h => h.elim) (fun v2 w3 H locs hv hW => ?_)
  obtain ⟨i8, rfl, hq⟩ := hv
  refine W.eq (g2 := F0 m 8 ls [.int i8]) rfl ?_
  refine lv_pop hx hb d_Al_get_8 rfl ?_
  refine bw_aload_n hx hb d_Al_get_9 rfl (lv_at hl 0 rfl) ?_
  refine lv_iload_n hx hb d_Al_get_10 rfl (lv_at hl 1 rfl) ?_
  obtain ⟨t9, hq⟩ := hq
  refine bw_callV (As := [.int x1]) (rest := []) C hW ci_Al_elementData m_109 m_110 m_111 d_Al_get_11 rfl t9 (by decide) rfl rfl rfl hl.1 (by decide) ⟨Nat.le_of_ble_eq_true rfl, Nat.le_of_ble_eq_true rfl⟩ ⟨hc, hs⟩ (c_Al_elementData hl0 _ _ _ hq) (fun _ _ _ _ _ _ h => h.elim) (fun v10 w11 H locs hv hW => ?_)
  obtain ⟨r16, rfl, hq⟩ := hv
  refine W.eq (g2 := F0 m 14 ls [va_rf r16]) rfl ?_
  exact bw_aret C (Or.inl ⟨_, rfl⟩) hW ⟨_, rfl, hq⟩ d_Al_get_14 hc hs
theorem ci_Al_get : CI n_Al_get b_Al_get 2 (some (.object "java/lang/Object")) 1 := ⟨m_102, m_4, by decide, by decide, by decide +kernel⟩
theorem c_Al_get {l : Launch} {D : va_G} {AC : Nat → ClassId} {e0 mi : Nat} {Q : Option Nat → Wd → Prop} (hl0 : l.stackTraces = false) (x0 : Nat) (x1 : Int32) (w : Wd) (hq : wp_Al_get e0 mi x0 x1 w Q) : Ct l D AC e0 mi n_Al_get (wy n_Al_get b_Al_get 2 (some (.object "java/lang/Object"))) 2 43 [va_rf (some x0), .int x1] w 0 0 (fun v w9 => ∃ r9 : Option Nat, v = some (va_rf r9) ∧ Q r9 w9) (fun _ _ => False) :=
  Ct.of hl0 (by decide) (by simp [lg_sl, bw_cat, cat_i, cat_j]) (fun p e s m args below meth c A ls C hW hl => k_Al_get_0 C x0 x1 w hq s.heap [] 0 0 ls hW (by simpa [lv_args, bw_cat, cat_i, cat_j] using hl) (Nat.le_refl _) (Nat.le_refl _))
def wp_Au_hugeLength (e0 mi : Nat) (x0 : Int32) (x1 : Int32) (w : Wd) (nc ns : Nat) (Q : Int32 → Wd → Prop) : Prop :=
  ∀ i1 : Int32, i1 = x0 + x1 → ((0 ≤ i1 → (((2147483639 : Int32) < i1 → (Q i1 w)) ∧ (¬ (2147483639 : Int32) < i1 → (Q (2147483639 : Int32) w)))) ∧ (¬ 0 ≤ i1 → (False)))
set_option maxHeartbeats 4000000 in
set_option maxRecDepth 100000 in
theorem k_Au_hugeLength_0 {p : Program} {l : Launch} {e : Env} {s : State} {m : MethodId} {args : Array Value} {below : List Frame} {meth : Method} {c : Code} {D : va_G} {AC : Nat → ClassId} {e0 mi : Nat} {A : Nat → Prop} {mc ms : Nat} {Q : Int32 → Wd → Prop} (C : Cx p l s m args meth c D AC e0 mi A n_Au_hugeLength b_Au_hugeLength 3 (some .int)) (x0 : Int32) (x1 : Int32) (w : Wd) (nc ns : Nat) (hq : wp_Au_hugeLength e0 mi x0 x1 w nc ns Q) : ∀ (H : Heap) (locs : List Loc) (cells slots : Nat) (ls : Array Slot), HW D cls8 FTc AC A s.heap H locs w → lv_has ls 3 [(0, .int x0), (1, .int x1)] → cells + nc ≤ mc → slots + ns ≤ ms → W p l e { frames := 0, cells := mc, slots := ms, locals := 0 } s m args below meth c H locs cells slots (vx_MQ below (QQ D AC A (fun v w9 => ∃ r9 : Int32, v = some (.int r9) ∧ Q r9 w9)) (XX D AC A (fun _ _ => False)) args s mc ms A) (F0 m 0 ls []) := by
  obtain ⟨hl0, hx, hb, hr, ht, hown, hlocks, hnm, hml, hex, hK, hA, hZ, hV⟩ := id C
  intro H locs cells slots ls hW hl hc hs
  unfold wp_Au_hugeLength at hq
  refine lv_iload_n hx hb d_Au_hugeLength_0 rfl (lv_at hl 0 rfl) ?_
  refine lv_iload_n hx hb d_Au_hugeLength_1 rfl (lv_at hl 1 rfl) ?_
  refine lv_iadd hx hb d_Au_hugeLength_2 ?_
  refine lv_topi (fun i1 ei1 => ?_)
  have hq := hq i1 ei1
  refine lv_istore_n (i := 2) (lv' := [(2, .int i1), (0, .int x0), (1, .int x1)]) hx hb d_Au_hugeLength_3 rfl hl (by decide) (by simp [bw_cat, cat_i, cat_j]) (fun ls hl => ?_)
  refine lv_iload_n hx hb d_Au_hugeLength_4 rfl (lv_at hl 0 rfl) ?_
  refine lv_if_ge (tgt := 49) hx hb d_Au_hugeLength_5 (by decide) (fun c2 => ?_) (fun c2 => ?_)
  · have hq := hq.1 c2
    refine lv_iload_n hx hb d_Au_hugeLength_49 rfl (lv_at hl 0 rfl) ?_
    refine lv_ldc hx hb hown (ht _ m_296) d_Au_hugeLength_50 ?_
    refine lv_icmp_gt (tgt := 58) hx hb d_Au_hugeLength_52 (by decide) (fun c3 => ?_) (fun c3 => ?_)
    · have hq := hq.1 c3
      refine lv_iload_n hx hb d_Au_hugeLength_58 rfl (lv_at hl 0 rfl) ?_
      exact bw_iret C hW ⟨_, rfl, hq⟩ d_Au_hugeLength_59 (Nat.le_trans (Nat.le_add_right _ _) hc) (Nat.le_trans (Nat.le_add_right _ _) hs)
    · have hq := hq.2 c3
      refine lv_ldc hx hb hown (ht _ m_296) d_Au_hugeLength_55 ?_
      exact bw_iret C hW ⟨_, rfl, hq⟩ d_Au_hugeLength_57 (Nat.le_trans (Nat.le_add_right _ _) hc) (Nat.le_trans (Nat.le_add_right _ _) hs)
  · have hq := hq.2 c2
    exact hq.elim
theorem ci_Au_hugeLength : CI n_Au_hugeLength b_Au_hugeLength 3 (some .int) 2 := ⟨m_299, m_13, by decide, by decide, by decide +kernel⟩
theorem c_Au_hugeLength {l : Launch} {D : va_G} {AC : Nat → ClassId} {e0 mi : Nat} {Q : Int32 → Wd → Prop} (hl0 : l.stackTraces = false) (x0 : Int32) (x1 : Int32) (w : Wd) (nc ns : Nat) (hq : wp_Au_hugeLength e0 mi x0 x1 w nc ns Q) : Ct l D AC e0 mi n_Au_hugeLength (wy n_Au_hugeLength b_Au_hugeLength 3 (some .int)) 0 0 [.int x0, .int x1] w nc ns (fun v w9 => ∃ r9 : Int32, v = some (.int r9) ∧ Q r9 w9) (fun _ _ => False) :=
  Ct.of hl0 (by decide) (by simp [lg_sl, bw_cat, cat_i, cat_j]) (fun p e s m args below meth c A ls C hW hl => k_Au_hugeLength_0 C x0 x1 w nc ns hq s.heap [] 0 0 ls hW (by simpa [lv_args, bw_cat, cat_i, cat_j] using hl) (Nat.le_of_eq (Nat.zero_add _)) (Nat.le_of_eq (Nat.zero_add _)))
def wb_Au_newLength_21 (e0 mi : Nat) (Q : Int32 → Wd → Prop) (x0 : Int32) (x1 : Int32) (x2 : Int32) (x3 : Int32) (w : Wd) (nc ns : Nat) : Prop :=
  ∃ k3 k4 : Nat, k3 ≤ nc ∧ k4 ≤ ns ∧ wp_Au_hugeLength e0 mi x0 x1 w k3 k4 (fun i7 w2 => Q i7 w2)
set_option maxHeartbeats 4000000 in
set_option maxRecDepth 100000 in
theorem k_Au_newLength_21 {p : Program} {l : Launch} {e : Env} {s : State} {m : MethodId} {args : Array Value} {below : List Frame} {meth : Method} {c : Code} {D : va_G} {AC : Nat → ClassId} {e0 mi : Nat} {A : Nat → Prop} {mc ms : Nat} {Q : Int32 → Wd → Prop} (C : Cx p l s m args meth c D AC e0 mi A n_Au_newLength b_Au_newLength 4 (some .int)) (x0 : Int32) (x1 : Int32) (x2 : Int32) (x3 : Int32) (w : Wd) (nc ns : Nat) (hq : wb_Au_newLength_21 e0 mi Q x0 x1 x2 x3 w nc ns) : ∀ (H : Heap) (locs : List Loc) (cells slots : Nat) (ls : Array Slot), HW D cls8 FTc AC A s.heap H locs w → lv_has ls 4 [(0, .int x0), (1, .int x1), (2, .int x2), (3, .int x3)] → cells + nc ≤ mc → slots + ns ≤ ms → W p l e { frames := 1, cells := mc, slots := ms, locals := 40 } s m args below meth c H locs cells slots (vx_MQ below (QQ D AC A (fun v w9 => ∃ r9 : Int32, v = some (.int r9) ∧ Q r9 w9)) (XX D AC A (fun _ _ => False)) args s mc ms A) (F0 m 21 ls []) := by
  obtain ⟨hl0, hx, hb, hr, ht, hown, hlocks, hnm, hml, hex, hK, hA, hZ, hV⟩ := id C
  intro H locs cells slots ls hW hl hc hs
  unfold wb_Au_newLength_21 at hq
  refine lv_iload_n hx hb d_Au_newLength_21 rfl (lv_at hl 0 rfl) ?_
  refine lv_iload_n hx hb d_Au_newLength_22 rfl (lv_at hl 1 rfl) ?_
  obtain ⟨k3, k4, h5, h6, hq⟩ := hq
  refine bw_callS (As := [.int x0, .int x1]) (rest := []) C hW ci_Au_hugeLength m_297 m_298 d_Au_newLength_23 rfl rfl hl.1 (by decide) ⟨Nat.le_of_ble_eq_true rfl, Nat.le_of_ble_eq_true rfl⟩ ⟨Nat.le_trans (Nat.add_le_add_left h5 _) hc, Nat.le_trans (Nat.add_le_add_left h6 _) hs⟩ (c_Au_hugeLength hl0 _ _ _ _ _ hq) (fun _ _ _ _ _ _ h => h.elim) (fun v1 w2 H locs hv hW => ?_)
  obtain ⟨i7, rfl, hq⟩ := hv
  have hc := bw_bud hc h5
  have hs := bw_bud hs h6
  refine W.eq (g2 := F0 m 26 ls [.int i7]) rfl ?_
  exact bw_iret C hW ⟨_, rfl, hq⟩ d_Au_newLength_26 (Nat.le_trans (Nat.le_add_right _ _) hc) (Nat.le_trans (Nat.le_add_right _ _) hs)
def wp_Au_newLength (e0 mi : Nat) (x0 : Int32) (x1 : Int32) (x2 : Int32) (w : Wd) (nc ns : Nat) (Q : Int32 → Wd → Prop) : Prop :=
  ∀ i1 : Int32, i1 = (if x1 < x2 then x2 else x1) → (∀ i2 : Int32, i2 = x0 + i1 → ((i2 ≤ (0 : Int32) → (wb_Au_newLength_21 e0 mi Q x0 x1 x2 i2 w nc ns)) ∧ (¬ i2 ≤ (0 : Int32) → (((2147483639 : Int32) < i2 → (wb_Au_newLength_21 e0 mi Q x0 x1 x2 i2 w nc ns)) ∧ (¬ (2147483639 : Int32) < i2 → (Q i2 w))))))
set_option maxHeartbeats 4000000 in
set_option maxRecDepth 100000 in
theorem k_Au_newLength_0 {p : Program} {l : Launch} {e : Env} {s : State} {m : MethodId} {args : Array Value} {below : List Frame} {meth : Method} {c : Code} {D : va_G} {AC : Nat → ClassId} {e0 mi : Nat} {A : Nat → Prop} {mc ms : Nat} {Q : Int32 → Wd → Prop} (C : Cx p l s m args meth c D AC e0 mi A n_Au_newLength b_Au_newLength 4 (some .int)) (x0 : Int32) (x1 : Int32) (x2 : Int32) (w : Wd) (nc ns : Nat) (hq : wp_Au_newLength e0 mi x0 x1 x2 w nc ns Q) : ∀ (H : Heap) (locs : List Loc) (cells slots : Nat) (ls : Array Slot), HW D cls8 FTc AC A s.heap H locs w → lv_has ls 4 [(0, .int x0), (1, .int x1), (2, .int x2)] → cells + nc ≤ mc → slots + ns ≤ ms → W p l e { frames := 1, cells := mc, slots := ms, locals := 40 } s m args below meth c H locs cells slots (vx_MQ below (QQ D AC A (fun v w9 => ∃ r9 : Int32, v = some (.int r9) ∧ Q r9 w9)) (XX D AC A (fun _ _ => False)) args s mc ms A) (F0 m 0 ls []) := by
  obtain ⟨hl0, hx, hb, hr, ht, hown, hlocks, hnm, hml, hex, hK, hA, hZ, hV⟩ := id C
  intro H locs cells slots ls hW hl hc hs
  unfold wp_Au_newLength at hq
  refine lv_iload_n hx hb d_Au_newLength_0 rfl (lv_at hl 0 rfl) ?_
  refine lv_iload_n hx hb d_Au_newLength_1 rfl (lv_at hl 1 rfl) ?_
  refine lv_iload_n hx hb d_Au_newLength_2 rfl (lv_at hl 2 rfl) ?_
  refine va_mmax hx hb (by rw [hml]; exact hl.1.symm) hown (ht _ m_293) (ht _ m_294) (ht _ m_14) (ht _ m_295) (Nat.le_of_ble_eq_true rfl) (by simp [bw_cat, cat_i, cat_j]) (Nat.le_trans (Nat.le_add_right _ _) hc) (Nat.le_trans (Nat.le_add_right _ _) hs) d_Au_newLength_3 ?_
  refine lv_topi (fun i1 ei1 => ?_)
  have hq := hq i1 ei1
  refine lv_iadd hx hb d_Au_newLength_6 ?_
  refine lv_topi (fun i2 ei2 => ?_)
  have hq := hq i2 ei2
  refine lv_istore_n (i := 3) (lv' := [(3, .int i2), (0, .int x0), (1, .int x1), (2, .int x2)]) hx hb d_Au_newLength_7 rfl hl (by decide) (by simp [bw_cat, cat_i, cat_j]) (fun ls hl => ?_)
  refine lv_iconst (v := 0) hx hb d_Au_newLength_8 (by decide) ?_
  refine lv_iload_n hx hb d_Au_newLength_9 rfl (lv_at hl 0 rfl) ?_
  refine lv_icmp_ge (tgt := 21) hx hb d_Au_newLength_10 (by decide) (fun c3 => ?_) (fun c3 => ?_)
  · have hq := hq.1 c3
    exact k_Au_newLength_21 C  _ _ _ _ _ _ _ hq _ _ _ _ _ hW (lv_sub hl [1, 2, 3, 0] rfl) hc hs
  · have hq := hq.2 c3
    refine lv_iload_n hx hb d_Au_newLength_13 rfl (lv_at hl 0 rfl) ?_
    refine lv_ldc hx hb hown (ht _ m_296) d_Au_newLength_14 ?_
    refine lv_icmp_gt (tgt := 21) hx hb d_Au_newLength_16 (by decide) (fun c4 => ?_) (fun c4 => ?_)
    · have hq := hq.1 c4
      exact k_Au_newLength_21 C  _ _ _ _ _ _ _ hq _ _ _ _ _ hW (lv_sub hl [1, 2, 3, 0] rfl) hc hs
    · have hq := hq.2 c4
      refine lv_iload_n hx hb d_Au_newLength_19 rfl (lv_at hl 0 rfl) ?_
      exact bw_iret C hW ⟨_, rfl, hq⟩ d_Au_newLength_20 (Nat.le_trans (Nat.le_add_right _ _) hc) (Nat.le_trans (Nat.le_add_right _ _) hs)
theorem ci_Au_newLength : CI n_Au_newLength b_Au_newLength 4 (some .int) 3 := ⟨m_292, m_13, by decide, by decide, by decide +kernel⟩
theorem c_Au_newLength {l : Launch} {D : va_G} {AC : Nat → ClassId} {e0 mi : Nat} {Q : Int32 → Wd → Prop} (hl0 : l.stackTraces = false) (x0 : Int32) (x1 : Int32) (x2 : Int32) (w : Wd) (nc ns : Nat) (hq : wp_Au_newLength e0 mi x0 x1 x2 w nc ns Q) : Ct l D AC e0 mi n_Au_newLength (wy n_Au_newLength b_Au_newLength 4 (some .int)) 1 40 [.int x0, .int x1, .int x2] w nc ns (fun v w9 => ∃ r9 : Int32, v = some (.int r9) ∧ Q r9 w9) (fun _ _ => False) :=
  Ct.of hl0 (by decide) (by simp [lg_sl, bw_cat, cat_i, cat_j]) (fun p e s m args below meth c A ls C hW hl => k_Au_newLength_0 C x0 x1 x2 w nc ns hq s.heap [] 0 0 ls hW (by simpa [lv_args, bw_cat, cat_i, cat_j] using hl) (Nat.le_of_eq (Nat.zero_add _)) (Nat.le_of_eq (Nat.zero_add _)))
def wp_As_copyOf2 (e0 mi : Nat) (x0 : Option Nat) (x1 : Int32) (x2 : Option Nat) (w : Wd) (nc ns : Nat) (Q : Option Nat → Wd → Prop) : Prop :=
  (¬ x2 = (some mi) → (False)) ∧ (x2 = (some mi) → (¬ x1 < 0 ∧ x1.toNatClampNeg * 4 ≤ 536870912 ∧ 1 ≤ nc ∧ x1.toNatClampNeg ≤ ns ∧ ∀ q2 : Nat, q2 ∉ wL w → ∀ w8 : Wd, w8 = bw_new w q2 100 x1.toNatClampNeg → (∃ n10 : Nat, bw_len e0 w8 x0 n10 ∧ (∀ i12 : Int32, i12 = (if x1 < (nI n10) then x1 else (nI n10)) → (∃ a13 : Nat, x0 = some a13 ∧ (bw_is w8 a13 100 ∧ (¬ (0 : Int32) < 0 ∧ ¬ (0 : Int32) < 0 ∧ ¬ i12 < 0 ∧ (0 : Int32).toNatClampNeg + i12.toNatClampNeg ≤ wN w8 a13 ∧ (0 : Int32).toNatClampNeg + i12.toNatClampNeg ≤ wN w8 q2 ∧ (∀ i21 : Nat, i21 < i12.toNatClampNeg → bw_el w8 (wR w8 a13 ((0 : Int32).toNatClampNeg + i21))) ∧ (Q (some q2) (sRow w8 q2 (va_cpy (wR w8 a13) (wR w8 q2) (0 : Int32).toNatClampNeg (0 : Int32).toNatClampNeg i12.toNatClampNeg))))))))))
set_option maxHeartbeats 4000000 in
set_option maxRecDepth 100000 in
theorem k_As_copyOf2_0 {p : Program} {l : Launch} {e : Env} {s : State} {m : MethodId} {args : Array Value} {below : List Frame} {meth : Method} {c : Code} {D : va_G} {AC : Nat → ClassId} {e0 mi : Nat} {A : Nat → Prop} {mc ms : Nat} {Q : Option Nat → Wd → Prop} (C : Cx p l s m args meth c D AC e0 mi A n_As_copyOf2 b_As_copyOf2 4 (some (.array (.object "java/lang/Object")))) (x0 : Option Nat) (x1 : Int32) (x2 : Option Nat) (w : Wd) (nc ns : Nat) (hq : wp_As_copyOf2 e0 mi x0 x1 x2 w nc ns Q) : ∀ (H : Heap) (locs : List Loc) (cells slots : Nat) (ls : Array Slot), HW D cls8 FTc AC A s.heap H locs w → lv_has ls 4 [(0, va_rf x0), (1, .int x1), (2, va_rf x2)] → cells + nc ≤ mc → slots + ns ≤ ms → W p l e { frames := 1, cells := mc, slots := ms, locals := 40 } s m args below meth c H locs cells slots (vx_MQ below (QQ D AC A (fun v w9 => ∃ r9 : Option Nat, v = some (va_rf r9) ∧ Q r9 w9)) (XX D AC A (fun _ _ => False)) args s mc ms A) (F0 m 0 ls []) := by
  obtain ⟨hl0, hx, hb, hr, ht, hown, hlocks, hnm, hml, hex, hK, hA, hZ, hV⟩ := id C
  intro H locs cells slots ls hW hl hc hs
  unfold wp_As_copyOf2 at hq
  refine bw_aload_n hx hb d_As_copyOf2_0 rfl (lv_at hl 2 rfl) ?_
  refine bw_ldcM C m_323 d_As_copyOf2_1 ?_
  refine lv_acmp_ne (tgt := 13) hx hb d_As_copyOf2_3 (by decide) (fun c1 => ?_) (fun c1 => ?_)
  · have hq := hq.1 c1
    refine bw_aload_n hx hb d_As_copyOf2_13 rfl (lv_at hl 2 rfl) ?_
    exact hq.elim
  · have hq := hq.2 c1
    refine lv_iload_n hx hb d_As_copyOf2_6 rfl (lv_at hl 1 rfl) ?_
    obtain ⟨h3, h6, h4, h5, hq⟩ := hq
    refine bw_newq C hW m_325 h3 h6 (Nat.le_trans (Nat.add_le_add_left h4 _) hc) (Nat.le_trans (Nat.add_le_add_left h5 _) hs) d_As_copyOf2_7 (fun q2 H n7 hW => ?_)
    obtain ⟨w8, ew8⟩ : ∃ z : Wd, z = bw_new w q2 100 x1.toNatClampNeg := ⟨_, rfl⟩
    rw [← ew8] at hW
    have hq := hq q2 n7 w8 ew8
    have hc := bw_bud hc h4
    have hs := bw_bud hs h5
    have t9 : bw_is w8 q2 100 := by rw [ew8]; exact bw_is_self _ _ _ _
    refine lv_goto (tgt := 24) hx hb d_As_copyOf2_10 (by decide) ?_
    refine bw_astore_n (i := 3) (lv' := [(3, va_rf (some q2)), (0, va_rf x0), (1, .int x1), (2, va_rf x2)]) hx hb d_As_copyOf2_24 rfl hl (by decide) (by simp [bw_cat, cat_i, cat_j]) (fun ls hl => ?_)
    refine bw_aload_n hx hb d_As_copyOf2_25 rfl (lv_at hl 1 rfl) ?_
    refine lv_iconst (v := 0) hx hb d_As_copyOf2_26 (by decide) ?_
    refine bw_aload_n hx hb d_As_copyOf2_27 rfl (lv_at hl 0 rfl) ?_
    refine lv_iconst (v := 0) hx hb d_As_copyOf2_28 (by decide) ?_
    refine bw_aload_n hx hb d_As_copyOf2_29 rfl (lv_at hl 1 rfl) ?_
    obtain ⟨n10, h11, hq⟩ := hq
    refine bw_alenq C hW h11 d_As_copyOf2_30 ?_
    refine lv_iload_n hx hb d_As_copyOf2_31 rfl (lv_at hl 2 rfl) ?_
    refine va_mmin hx hb (by rw [hml]; exact hl.1.symm) hown (ht _ m_326) (ht _ m_327) (ht _ m_14) (ht _ m_328) (Nat.le_of_ble_eq_true rfl) (by simp [bw_cat, cat_i, cat_j]) (Nat.le_trans (Nat.le_add_right _ _) hc) (Nat.le_trans (Nat.le_add_right _ _) hs) d_As_copyOf2_32 ?_
    refine lv_topi (fun i12 ei12 => ?_)
    have hq := hq i12 ei12
    obtain ⟨a13, ea13, hq⟩ := hq
    obtain ⟨t14, hq⟩ := hq
    obtain ⟨h15, h16, h17, h18, h19, h20, hq⟩ := hq
    refine bw_copy C hW hl.1 m_329 m_331 m_330 m_16 ea13 rfl t14 t9 h15 h16 h17 h18 h19 h20 (Nat.le_of_ble_eq_true rfl) (by exact Nat.le_of_ble_eq_true rfl) d_As_copyOf2_35 (fun H locs hW => ?_)
    refine bw_aload_n hx hb d_As_copyOf2_38 rfl (lv_at hl 0 rfl) ?_
    exact bw_aret C (Or.inr ⟨_, rfl⟩) hW ⟨_, rfl, hq⟩ d_As_copyOf2_39 (Nat.le_trans (Nat.le_add_right _ _) hc) (Nat.le_trans (Nat.le_add_right _ _) hs)
theorem ci_As_copyOf2 : CI n_As_copyOf2 b_As_copyOf2 4 (some (.array (.object "java/lang/Object"))) 3 := ⟨m_322, m_15, by decide, by decide, by decide +kernel⟩
theorem c_As_copyOf2 {l : Launch} {D : va_G} {AC : Nat → ClassId} {e0 mi : Nat} {Q : Option Nat → Wd → Prop} (hl0 : l.stackTraces = false) (x0 : Option Nat) (x1 : Int32) (x2 : Option Nat) (w : Wd) (nc ns : Nat) (hq : wp_As_copyOf2 e0 mi x0 x1 x2 w nc ns Q) : Ct l D AC e0 mi n_As_copyOf2 (wy n_As_copyOf2 b_As_copyOf2 4 (some (.array (.object "java/lang/Object")))) 1 40 [va_rf x0, .int x1, va_rf x2] w nc ns (fun v w9 => ∃ r9 : Option Nat, v = some (va_rf r9) ∧ Q r9 w9) (fun _ _ => False) :=
  Ct.of hl0 (by decide) (by simp [lg_sl, bw_cat, cat_i, cat_j]) (fun p e s m args below meth c A ls C hW hl => k_As_copyOf2_0 C x0 x1 x2 w nc ns hq s.heap [] 0 0 ls hW (by simpa [lv_args, bw_cat, cat_i, cat_j] using hl) (Nat.le_of_eq (Nat.zero_add _)) (Nat.le_of_eq (Nat.zero_add _)))
def wp_As_copyOf (e0 mi : Nat) (x0 : Option Nat) (x1 : Int32) (w : Wd) (nc ns : Nat) (Q : Option Nat → Wd → Prop) : Prop :=
  ∃ a1 : Nat, x0 = some a1 ∧ (bw_is w a1 100 ∧ (∃ k5 k6 : Nat, k5 ≤ nc ∧ k6 ≤ ns ∧ wp_As_copyOf2 e0 mi x0 x1 (some mi) w k5 k6 (fun r9 w4 => Q r9 w4)))
set_option maxHeartbeats 4000000 in
set_option maxRecDepth 100000 in
theorem k_As_copyOf_0 {p : Program} {l : Launch} {e : Env} {s : State} {m : MethodId} {args : Array Value} {below : List Frame} {meth : Method} {c : Code} {D : va_G} {AC : Nat → ClassId} {e0 mi : Nat} {A : Nat → Prop} {mc ms : Nat} {Q : Option Nat → Wd → Prop} (C : Cx p l s m args meth c D AC e0 mi A n_As_copyOf b_As_copyOf 2 (some (.array (.object "java/lang/Object")))) (x0 : Option Nat) (x1 : Int32) (w : Wd) (nc ns : Nat) (hq : wp_As_copyOf e0 mi x0 x1 w nc ns Q) : ∀ (H : Heap) (locs : List Loc) (cells slots : Nat) (ls : Array Slot), HW D cls8 FTc AC A s.heap H locs w → lv_has ls 2 [(0, va_rf x0), (1, .int x1)] → cells + nc ≤ mc → slots + ns ≤ ms → W p l e { frames := 2, cells := mc, slots := ms, locals := 63 } s m args below meth c H locs cells slots (vx_MQ below (QQ D AC A (fun v w9 => ∃ r9 : Option Nat, v = some (va_rf r9) ∧ Q r9 w9)) (XX D AC A (fun _ _ => False)) args s mc ms A) (F0 m 0 ls []) := by
  obtain ⟨hl0, hx, hb, hr, ht, hown, hlocks, hnm, hml, hex, hK, hA, hZ, hV⟩ := id C
  intro H locs cells slots ls hW hl hc hs
  unfold wp_As_copyOf at hq
  refine bw_aload_n hx hb d_As_copyOf_0 rfl (lv_at hl 0 rfl) ?_
  refine lv_iload_n hx hb d_As_copyOf_1 rfl (lv_at hl 1 rfl) ?_
  refine bw_aload_n hx hb d_As_copyOf_2 rfl (lv_at hl 0 rfl) ?_
  obtain ⟨a1, ea1, hq⟩ := hq
  obtain ⟨t2, hq⟩ := hq
  refine bw_getC C hW hl.1 m_303 m_983 m_304 m_319 ea1 t2 (Nat.le_of_ble_eq_true rfl) (by simp [bw_cat, cat_i, cat_j]) d_As_copyOf_3 ?_
  obtain ⟨k5, k6, h7, h8, hq⟩ := hq
  refine bw_callS (As := [va_rf x0, .int x1, va_rf (some mi)]) (rest := []) C hW ci_As_copyOf2 m_320 m_321 d_As_copyOf_6 rfl rfl hl.1 (by decide) ⟨Nat.le_of_ble_eq_true rfl, Nat.le_of_ble_eq_true rfl⟩ ⟨Nat.le_trans (Nat.add_le_add_left h7 _) hc, Nat.le_trans (Nat.add_le_add_left h8 _) hs⟩ (c_As_copyOf2 hl0 _ _ _ _ _ _ hq) (fun _ _ _ _ _ _ h => h.elim) (fun v3 w4 H locs hv hW => ?_)
  obtain ⟨r9, rfl, hq⟩ := hv
  have hc := bw_bud hc h7
  have hs := bw_bud hs h8
  refine W.eq (g2 := F0 m 9 ls [va_rf r9]) rfl ?_
  exact bw_aret C (Or.inr ⟨_, rfl⟩) hW ⟨_, rfl, hq⟩ d_As_copyOf_9 (Nat.le_trans (Nat.le_add_right _ _) hc) (Nat.le_trans (Nat.le_add_right _ _) hs)
theorem ci_As_copyOf : CI n_As_copyOf b_As_copyOf 2 (some (.array (.object "java/lang/Object"))) 2 := ⟨m_302, m_15, by decide, by decide, by decide +kernel⟩
theorem c_As_copyOf {l : Launch} {D : va_G} {AC : Nat → ClassId} {e0 mi : Nat} {Q : Option Nat → Wd → Prop} (hl0 : l.stackTraces = false) (x0 : Option Nat) (x1 : Int32) (w : Wd) (nc ns : Nat) (hq : wp_As_copyOf e0 mi x0 x1 w nc ns Q) : Ct l D AC e0 mi n_As_copyOf (wy n_As_copyOf b_As_copyOf 2 (some (.array (.object "java/lang/Object")))) 2 63 [va_rf x0, .int x1] w nc ns (fun v w9 => ∃ r9 : Option Nat, v = some (va_rf r9) ∧ Q r9 w9) (fun _ _ => False) :=
  Ct.of hl0 (by decide) (by simp [lg_sl, bw_cat, cat_i, cat_j]) (fun p e s m args below meth c A ls C hW hl => k_As_copyOf_0 C x0 x1 w nc ns hq s.heap [] 0 0 ls hW (by simpa [lv_args, bw_cat, cat_i, cat_j] using hl) (Nat.le_of_eq (Nat.zero_add _)) (Nat.le_of_eq (Nat.zero_add _)))
def wb_Al_grow2_20 (e0 mi : Nat) (Q : Option Nat → Wd → Prop) (x0 : Nat) (x1 : Int32) (x2 : Int32) (w : Wd) (nc ns : Nat) : Prop :=
  ∃ k3 k4 : Nat, k3 ≤ nc ∧ k4 ≤ ns ∧ wp_Au_newLength e0 mi x2 (x1 - x2) (x2 >>> ((1 : Int32) &&& 31)) w k3 k4 (fun i7 w2 => bw_is w2 x0 7 ∧ (∃ k11 k12 : Nat, k11 ≤ (nc - k3) ∧ k12 ≤ (ns - k4) ∧ wp_As_copyOf e0 mi (wR w2 x0 1) i7 w2 k11 k12 (fun r15 w10 => bw_is w10 x0 7 ∧ (Q r15 (sR w10 x0 1 r15)))))
set_option maxHeartbeats 4000000 in
set_option maxRecDepth 100000 in
theorem k_Al_grow2_20 {p : Program} {l : Launch} {e : Env} {s : State} {m : MethodId} {args : Array Value} {below : List Frame} {meth : Method} {c : Code} {D : va_G} {AC : Nat → ClassId} {e0 mi : Nat} {A : Nat → Prop} {mc ms : Nat} {Q : Option Nat → Wd → Prop} (C : Cx p l s m args meth c D AC e0 mi A n_Al_grow2 b_Al_grow2 4 (some (.array (.object "java/lang/Object")))) (x0 : Nat) (x1 : Int32) (x2 : Int32) (w : Wd) (nc ns : Nat) (hq : wb_Al_grow2_20 e0 mi Q x0 x1 x2 w nc ns) : ∀ (H : Heap) (locs : List Loc) (cells slots : Nat) (ls : Array Slot), HW D cls8 FTc AC A s.heap H locs w → lv_has ls 4 [(0, va_rf (some x0)), (1, .int x1), (2, .int x2)] → cells + nc ≤ mc → slots + ns ≤ ms → W p l e { frames := 3, cells := mc, slots := ms, locals := 84 } s m args below meth c H locs cells slots (vx_MQ below (QQ D AC A (fun v w9 => ∃ r9 : Option Nat, v = some (va_rf r9) ∧ Q r9 w9)) (XX D AC A (fun _ _ => False)) args s mc ms A) (F0 m 20 ls []) := by
  obtain ⟨hl0, hx, hb, hr, ht, hown, hlocks, hnm, hml, hex, hK, hA, hZ, hV⟩ := id C
  intro H locs cells slots ls hW hl hc hs
  unfold wb_Al_grow2_20 at hq
  refine lv_iload_n hx hb d_Al_grow2_20 rfl (lv_at hl 2 rfl) ?_
  refine lv_iload_n hx hb d_Al_grow2_21 rfl (lv_at hl 1 rfl) ?_
  refine lv_iload_n hx hb d_Al_grow2_22 rfl (lv_at hl 2 rfl) ?_
  refine lv_isub hx hb d_Al_grow2_23 ?_
  refine lv_iload_n hx hb d_Al_grow2_24 rfl (lv_at hl 2 rfl) ?_
  refine lv_iconst (v := 1) hx hb d_Al_grow2_25 (by decide) ?_
  refine lv_ishr hx hb d_Al_grow2_26 ?_
  obtain ⟨k3, k4, h5, h6, hq⟩ := hq
  refine bw_callS (As := [.int x2, .int (x1 - x2), .int (x2 >>> ((1 : Int32) &&& 31))]) (rest := []) C hW ci_Au_newLength m_290 m_291 d_Al_grow2_27 rfl rfl hl.1 (by decide) ⟨Nat.le_of_ble_eq_true rfl, Nat.le_of_ble_eq_true rfl⟩ ⟨Nat.le_trans (Nat.add_le_add_left h5 _) hc, Nat.le_trans (Nat.add_le_add_left h6 _) hs⟩ (c_Au_newLength hl0 _ _ _ _ _ _ hq) (fun _ _ _ _ _ _ h => h.elim) (fun v1 w2 H locs hv hW => ?_)
  obtain ⟨i7, rfl, hq⟩ := hv
  have hc := bw_bud hc h5
  have hs := bw_bud hs h6
  refine W.eq (g2 := F0 m 30 ls [.int i7]) rfl ?_
  refine lv_istore_n (i := 3) (lv' := [(3, .int i7), (0, va_rf (some x0)), (1, .int x1), (2, .int x2)]) hx hb d_Al_grow2_30 rfl hl (by decide) (by simp [bw_cat, cat_i, cat_j]) (fun ls hl => ?_)
  refine bw_aload_n hx hb d_Al_grow2_31 rfl (lv_at hl 1 rfl) ?_
  refine bw_aload_n hx hb d_Al_grow2_32 rfl (lv_at hl 1 rfl) ?_
  obtain ⟨t8, hq⟩ := hq
  refine bw_getR hx hb ht in_Al hown hK hW rfl t8 (by decide) rfl 1 (by decide) rfl (ht _ m_47) (fun _ h => h) d_Al_grow2_33 ?_
  refine lv_iload_n hx hb d_Al_grow2_36 rfl (lv_at hl 0 rfl) ?_
  obtain ⟨k11, k12, h13, h14, hq⟩ := hq
  refine bw_callS (As := [va_rf (wR w2 x0 1), .int i7]) (rest := [va_rf (some x0)]) C hW ci_As_copyOf m_300 m_301 d_Al_grow2_37 rfl rfl hl.1 (by simp [bw_cat, cat_i, cat_j]) ⟨Nat.le_of_ble_eq_true rfl, Nat.le_of_ble_eq_true rfl⟩ ⟨Nat.le_trans (Nat.add_le_add_left h13 _) hc, Nat.le_trans (Nat.add_le_add_left h14 _) hs⟩ (c_As_copyOf hl0 _ _ _ _ _ hq) (fun _ _ _ _ _ _ h => h.elim) (fun v9 w10 H locs hv hW => ?_)
  obtain ⟨r15, rfl, hq⟩ := hv
  have hc := bw_bud hc h13
  have hs := bw_bud hs h14
  refine W.eq (g2 := F0 m 40 ls [va_rf r15, va_rf (some x0)]) rfl ?_
  refine lv_dup_x1 hx hb d_Al_grow2_40 (bw_cat _) (bw_cat _) ?_
  obtain ⟨t16, hq⟩ := hq
  refine bw_putR hx hb ht in_Al y_Al yk_Al nm_Al hown hK hW rfl t16 (by decide) rfl 1 (by decide) rfl (ht _ m_47) (fun _ h => h) (Or.inl rfl) (bw_nra _ _) (bw_fra _ _) d_Al_grow2_41 (fun H locs hW => ?_)
  exact bw_aret C (Or.inr ⟨_, rfl⟩) hW ⟨_, rfl, hq⟩ d_Al_grow2_44 (Nat.le_trans (Nat.le_add_right _ _) hc) (Nat.le_trans (Nat.le_add_right _ _) hs)
def wp_Al_grow2 (e0 mi : Nat) (x0 : Nat) (x1 : Int32) (w : Wd) (nc ns : Nat) (Q : Option Nat → Wd → Prop) : Prop :=
  bw_is w x0 7 ∧ (∃ n2 : Nat, bw_len e0 w (wR w x0 1) n2 ∧ (∀ i4 : Int32, i4 = nI n2 → ((0 < i4 → (wb_Al_grow2_20 e0 mi Q x0 x1 i4 w nc ns)) ∧ (¬ 0 < i4 → (((wR w x0 1) = (some e0) → (∀ i7 : Int32, i7 = (if (10 : Int32) < x1 then x1 else (10 : Int32)) → (¬ i7 < 0 ∧ i7.toNatClampNeg * 4 ≤ 536870912 ∧ 1 ≤ nc ∧ i7.toNatClampNeg ≤ ns ∧ ∀ q8 : Nat, q8 ∉ wL w → ∀ w14 : Wd, w14 = bw_new w q8 100 i7.toNatClampNeg → (Q (some q8) (sR w14 x0 1 (some q8)))))) ∧ (¬ (wR w x0 1) = (some e0) → (wb_Al_grow2_20 e0 mi Q x0 x1 i4 w nc ns)))))))
set_option maxHeartbeats 4000000 in
set_option maxRecDepth 100000 in
theorem k_Al_grow2_0 {p : Program} {l : Launch} {e : Env} {s : State} {m : MethodId} {args : Array Value} {below : List Frame} {meth : Method} {c : Code} {D : va_G} {AC : Nat → ClassId} {e0 mi : Nat} {A : Nat → Prop} {mc ms : Nat} {Q : Option Nat → Wd → Prop} (C : Cx p l s m args meth c D AC e0 mi A n_Al_grow2 b_Al_grow2 4 (some (.array (.object "java/lang/Object")))) (x0 : Nat) (x1 : Int32) (w : Wd) (nc ns : Nat) (hq : wp_Al_grow2 e0 mi x0 x1 w nc ns Q) : ∀ (H : Heap) (locs : List Loc) (cells slots : Nat) (ls : Array Slot), HW D cls8 FTc AC A s.heap H locs w → lv_has ls 4 [(0, va_rf (some x0)), (1, .int x1)] → cells + nc ≤ mc → slots + ns ≤ ms → W p l e { frames := 3, cells := mc, slots := ms, locals := 84 } s m args below meth c H locs cells slots (vx_MQ below (QQ D AC A (fun v w9 => ∃ r9 : Option Nat, v = some (va_rf r9) ∧ Q r9 w9)) (XX D AC A (fun _ _ => False)) args s mc ms A) (F0 m 0 ls []) := by
  obtain ⟨hl0, hx, hb, hr, ht, hown, hlocks, hnm, hml, hex, hK, hA, hZ, hV⟩ := id C
  intro H locs cells slots ls hW hl hc hs
  unfold wp_Al_grow2 at hq
  refine bw_aload_n hx hb d_Al_grow2_0 rfl (lv_at hl 0 rfl) ?_
  obtain ⟨t1, hq⟩ := hq
  refine bw_getR hx hb ht in_Al hown hK hW rfl t1 (by decide) rfl 1 (by decide) rfl (ht _ m_47) (fun _ h => h) d_Al_grow2_1 ?_
  obtain ⟨n2, h3, hq⟩ := hq
  refine bw_alenq C hW h3 d_Al_grow2_4 ?_
  refine lv_topi (fun i4 ei4 => ?_)
  have hq := hq i4 ei4
  refine lv_istore_n (i := 2) (lv' := [(2, .int i4), (0, va_rf (some x0)), (1, .int x1)]) hx hb d_Al_grow2_5 rfl hl (by decide) (by simp [bw_cat, cat_i, cat_j]) (fun ls hl => ?_)
  refine lv_iload_n hx hb d_Al_grow2_6 rfl (lv_at hl 0 rfl) ?_
  refine lv_if_gt (tgt := 20) hx hb d_Al_grow2_7 (by decide) (fun c5 => ?_) (fun c5 => ?_)
  · have hq := hq.1 c5
    exact k_Al_grow2_20 C  _ _ _ _ _ _ hq _ _ _ _ _ hW (lv_sub hl [1, 2, 0] rfl) hc hs
  · have hq := hq.2 c5
    refine bw_aload_n hx hb d_Al_grow2_10 rfl (lv_at hl 1 rfl) ?_
    refine bw_getR hx hb ht in_Al hown hK hW rfl t1 (by decide) rfl 1 (by decide) rfl (ht _ m_47) (fun _ h => h) d_Al_grow2_11 ?_
    refine va_gets hx hb hZ.2.2.1 hW.2.2 hown (ht _ m_45) (fun _ h => h) d_Al_grow2_14 ?_
    refine W.eq (g2 := F0 m 17 ls [va_rf (some e0), va_rf (wR w x0 1)]) rfl ?_
    refine lv_acmp_eq (tgt := 45) hx hb d_Al_grow2_17 (by decide) (fun c6 => ?_) (fun c6 => ?_)
    · have hq := hq.1 c6
      refine bw_aload_n hx hb d_Al_grow2_45 rfl (lv_at hl 1 rfl) ?_
      refine lv_bipush (v := 10) hx hb d_Al_grow2_46 (by decide) ?_
      refine lv_iload_n hx hb d_Al_grow2_48 rfl (lv_at hl 2 rfl) ?_
      refine va_mmax hx hb (by rw [hml]; exact hl.1.symm) hown (ht _ m_332) (ht _ m_294) (ht _ m_14) (ht _ m_295) (Nat.le_of_ble_eq_true rfl) (by simp [bw_cat, cat_i, cat_j]) (Nat.le_trans (Nat.le_add_right _ _) hc) (Nat.le_trans (Nat.le_add_right _ _) hs) d_Al_grow2_49 ?_
      refine lv_topi (fun i7 ei7 => ?_)
      have hq := hq i7 ei7
      obtain ⟨h9, h12, h10, h11, hq⟩ := hq
      refine bw_newq C hW m_333 h9 h12 (Nat.le_trans (Nat.add_le_add_left h10 _) hc) (Nat.le_trans (Nat.add_le_add_left h11 _) hs) d_Al_grow2_52 (fun q8 H n13 hW => ?_)
      obtain ⟨w14, ew14⟩ : ∃ z : Wd, z = bw_new w q8 100 i7.toNatClampNeg := ⟨_, rfl⟩
      rw [← ew14] at hW
      have hq := hq q8 n13 w14 ew14
      have hc := bw_bud hc h10
      have hs := bw_bud hs h11
      have t1 : bw_is w14 x0 7 := by rw [ew14]; exact bw_is_new n13 t1
      have t15 : bw_is w14 q8 100 := by rw [ew14]; exact bw_is_self _ _ _ _
      refine lv_dup_x1 hx hb d_Al_grow2_55 (bw_cat _) (bw_cat _) ?_
      refine bw_putR hx hb ht in_Al y_Al yk_Al nm_Al hown hK hW rfl t1 (by decide) rfl 1 (by decide) rfl (ht _ m_47) (fun _ h => h) (Or.inl rfl) (bw_nra _ _) (bw_fra _ _) d_Al_grow2_56 (fun H locs hW => ?_)
      exact bw_aret C (Or.inr ⟨_, rfl⟩) hW ⟨_, rfl, hq⟩ d_Al_grow2_59 (Nat.le_trans (Nat.le_add_right _ _) hc) (Nat.le_trans (Nat.le_add_right _ _) hs)
    · have hq := hq.2 c6
      exact k_Al_grow2_20 C  _ _ _ _ _ _ hq _ _ _ _ _ hW (lv_sub hl [1, 2, 0] rfl) hc hs
theorem ci_Al_grow2 : CI n_Al_grow2 b_Al_grow2 4 (some (.array (.object "java/lang/Object"))) 1 := ⟨m_289, m_4, by decide, by decide, by decide +kernel⟩
theorem sel_Al_grow2 : Cond.selects "java/util/ArrayList" n_Al_grow2 n_Al_grow2 ∈ TBL := List.mem_filter.mpr ⟨List.mem_append_left _ (List.mem_map.mpr ⟨(n_Al_grow2, 3), by decide +kernel, rfl⟩), rfl⟩
theorem c_Al_grow2 {l : Launch} {D : va_G} {AC : Nat → ClassId} {e0 mi : Nat} {Q : Option Nat → Wd → Prop} (hl0 : l.stackTraces = false) (x0 : Nat) (x1 : Int32) (w : Wd) (nc ns : Nat) (hq : wp_Al_grow2 e0 mi x0 x1 w nc ns Q) : Ct l D AC e0 mi n_Al_grow2 (wy n_Al_grow2 b_Al_grow2 4 (some (.array (.object "java/lang/Object")))) 3 84 [va_rf (some x0), .int x1] w nc ns (fun v w9 => ∃ r9 : Option Nat, v = some (va_rf r9) ∧ Q r9 w9) (fun _ _ => False) :=
  Ct.of hl0 (by decide) (by simp [lg_sl, bw_cat, cat_i, cat_j]) (fun p e s m args below meth c A ls C hW hl => k_Al_grow2_0 C x0 x1 w nc ns hq s.heap [] 0 0 ls hW (by simpa [lv_args, bw_cat, cat_i, cat_j] using hl) (Nat.le_of_eq (Nat.zero_add _)) (Nat.le_of_eq (Nat.zero_add _)))
def wp_Al_grow (e0 mi : Nat) (x0 : Nat) (w : Wd) (nc ns : Nat) (Q : Option Nat → Wd → Prop) : Prop :=
  bw_is w x0 7 ∧ (∃ k4 k5 : Nat, k4 ≤ nc ∧ k5 ≤ ns ∧ wp_Al_grow2 e0 mi x0 ((wI w x0 2) + (1 : Int32)) w k4 k5 (fun r8 w3 => Q r8 w3))
set_option maxHeartbeats 4000000 in
set_option maxRecDepth 100000 in
theorem k_Al_grow_0 {p : Program} {l : Launch} {e : Env} {s : State} {m : MethodId} {args : Array Value} {below : List Frame} {meth : Method} {c : Code} {D : va_G} {AC : Nat → ClassId} {e0 mi : Nat} {A : Nat → Prop} {mc ms : Nat} {Q : Option Nat → Wd → Prop} (C : Cx p l s m args meth c D AC e0 mi A n_Al_grow b_Al_grow 1 (some (.array (.object "java/lang/Object")))) (x0 : Nat) (w : Wd) (nc ns : Nat) (hq : wp_Al_grow e0 mi x0 w nc ns Q) : ∀ (H : Heap) (locs : List Loc) (cells slots : Nat) (ls : Array Slot), HW D cls8 FTc AC A s.heap H locs w → lv_has ls 1 [(0, va_rf (some x0))] → cells + nc ≤ mc → slots + ns ≤ ms → W p l e { frames := 4, cells := mc, slots := ms, locals := 107 } s m args below meth c H locs cells slots (vx_MQ below (QQ D AC A (fun v w9 => ∃ r9 : Option Nat, v = some (va_rf r9) ∧ Q r9 w9)) (XX D AC A (fun _ _ => False)) args s mc ms A) (F0 m 0 ls []) := by
  obtain ⟨hl0, hx, hb, hr, ht, hown, hlocks, hnm, hml, hex, hK, hA, hZ, hV⟩ := id C
  intro H locs cells slots ls hW hl hc hs
  unfold wp_Al_grow at hq
  refine bw_aload_n hx hb d_Al_grow_0 rfl (lv_at hl 0 rfl) ?_
  refine bw_aload_n hx hb d_Al_grow_1 rfl (lv_at hl 0 rfl) ?_
  obtain ⟨t1, hq⟩ := hq
  refine bw_getI hx hb ht in_Al hown hK hW rfl t1 (by decide) rfl 2 (by decide) rfl (ht _ m_48) (fun _ h => h) d_Al_grow_2 ?_
  refine lv_iconst (v := 1) hx hb d_Al_grow_5 (by decide) ?_
  refine lv_iadd hx hb d_Al_grow_6 ?_
  obtain ⟨k4, k5, h6, h7, hq⟩ := hq
  refine bw_callV (As := [.int ((wI w x0 2) + (1 : Int32))]) (rest := []) C hW ci_Al_grow2 m_286 m_288 sel_Al_grow2 d_Al_grow_7 rfl t1 (by decide) rfl rfl rfl hl.1 (by decide) ⟨Nat.le_of_ble_eq_true rfl, Nat.le_of_ble_eq_true rfl⟩ ⟨Nat.le_trans (Nat.add_le_add_left h6 _) hc, Nat.le_trans (Nat.add_le_add_left h7 _) hs⟩ (c_Al_grow2 hl0 _ _ _ _ _ hq) (fun _ _ _ _ _ _ h => h.elim) (fun v2 w3 H locs hv hW => ?_)
  obtain ⟨r8, rfl, hq⟩ := hv
  have hc := bw_bud hc h6
  have hs := bw_bud hs h7
  refine W.eq (g2 := F0 m 10 ls [va_rf r8]) rfl ?_
  exact bw_aret C (Or.inr ⟨_, rfl⟩) hW ⟨_, rfl, hq⟩ d_Al_grow_10 (Nat.le_trans (Nat.le_add_right _ _) hc) (Nat.le_trans (Nat.le_add_right _ _) hs)
theorem ci_Al_grow : CI n_Al_grow b_Al_grow 1 (some (.array (.object "java/lang/Object"))) 0 := ⟨m_285, m_4, by decide, by decide, by decide +kernel⟩
theorem sel_Al_grow : Cond.selects "java/util/ArrayList" n_Al_grow n_Al_grow ∈ TBL := List.mem_filter.mpr ⟨List.mem_append_left _ (List.mem_map.mpr ⟨(n_Al_grow, 3), by decide +kernel, rfl⟩), rfl⟩
theorem c_Al_grow {l : Launch} {D : va_G} {AC : Nat → ClassId} {e0 mi : Nat} {Q : Option Nat → Wd → Prop} (hl0 : l.stackTraces = false) (x0 : Nat) (w : Wd) (nc ns : Nat) (hq : wp_Al_grow e0 mi x0 w nc ns Q) : Ct l D AC e0 mi n_Al_grow (wy n_Al_grow b_Al_grow 1 (some (.array (.object "java/lang/Object")))) 4 107 [va_rf (some x0)] w nc ns (fun v w9 => ∃ r9 : Option Nat, v = some (va_rf r9) ∧ Q r9 w9) (fun _ _ => False) :=
  Ct.of hl0 (by decide) (by simp [lg_sl, bw_cat, cat_i, cat_j]) (fun p e s m args below meth c A ls C hW hl => k_Al_grow_0 C x0 w nc ns hq s.heap [] 0 0 ls hW (by simpa [lv_args, bw_cat, cat_i, cat_j] using hl) (Nat.le_of_eq (Nat.zero_add _)) (Nat.le_of_eq (Nat.zero_add _)))
def wb_Al_add2_11 (e0 mi : Nat) (Q : Wd → Prop) (x0 : Nat) (x1 : Option Nat) (x2 : Option Nat) (x3 : Int32) (w : Wd) (nc ns : Nat) : Prop :=
  ∃ a1 : Nat, x2 = some a1 ∧ (bw_is w a1 100 ∧ (vp_in x3 (wN w a1) ∧ (∀ b5, x1 = some b5 → ∃ cn, bw_is w b5 cn ∧ cn < 6 ∧ cn ≠ 5) ∧ (bw_is (sR w a1 x3.toNatClampNeg x1) x0 7 ∧ (Q (sI (sR w a1 x3.toNatClampNeg x1) x0 2 (x3 + (1 : Int32)))))))
set_option maxHeartbeats 4000000 in
set_option maxRecDepth 100000 in
theorem k_Al_add2_11 {p : Program} {l : Launch} {e : Env} {s : State} {m : MethodId} {args : Array Value} {below : List Frame} {meth : Method} {c : Code} {D : va_G} {AC : Nat → ClassId} {e0 mi : Nat} {A : Nat → Prop} {mc ms : Nat} {Q : Wd → Prop} (C : Cx p l s m args meth c D AC e0 mi A n_Al_add2 b_Al_add2 4 none) (x0 : Nat) (x1 : Option Nat) (x2 : Option Nat) (x3 : Int32) (w : Wd) (nc ns : Nat) (hq : wb_Al_add2_11 e0 mi Q x0 x1 x2 x3 w nc ns) : ∀ (H : Heap) (locs : List Loc) (cells slots : Nat) (ls : Array Slot), HW D cls8 FTc AC A s.heap H locs w → lv_has ls 4 [(0, va_rf (some x0)), (1, va_rf x1), (2, va_rf x2), (3, .int x3)] → cells + nc ≤ mc → slots + ns ≤ ms → W p l e { frames := 5, cells := mc, slots := ms, locals := 127 } s m args below meth c H locs cells slots (vx_MQ below (QQ D AC A (fun v w9 => v = none ∧ Q w9)) (XX D AC A (fun _ _ => False)) args s mc ms A) (F0 m 11 ls []) := by
  obtain ⟨hl0, hx, hb, hr, ht, hown, hlocks, hnm, hml, hex, hK, hA, hZ, hV⟩ := id C
  intro H locs cells slots ls hW hl hc hs
  unfold wb_Al_add2_11 at hq
  refine bw_aload_n hx hb d_Al_add2_11 rfl (lv_at hl 2 rfl) ?_
  refine lv_iload_n hx hb d_Al_add2_12 rfl (lv_at hl 3 rfl) ?_
  refine bw_aload_n hx hb d_Al_add2_13 rfl (lv_at hl 1 rfl) ?_
  obtain ⟨a1, ea1, hq⟩ := hq
  obtain ⟨t2, hq⟩ := hq
  obtain ⟨h3, hq⟩ := hq
  obtain ⟨h4, hq⟩ := hq
  refine bw_aast C hW ea1 t2 h3 h4 d_Al_add2_14 (fun H locs hW => ?_)
  refine bw_aload_n hx hb d_Al_add2_15 rfl (lv_at hl 0 rfl) ?_
  refine lv_iload_n hx hb d_Al_add2_16 rfl (lv_at hl 3 rfl) ?_
  refine lv_iconst (v := 1) hx hb d_Al_add2_17 (by decide) ?_
  refine lv_iadd hx hb d_Al_add2_18 ?_
  obtain ⟨t6, hq⟩ := hq
  refine bw_putI hx hb ht in_Al y_Al yk_Al nm_Al hown hK hW rfl t6 (by decide) rfl 2 (by decide) rfl (ht _ m_48) (fun _ h => h) (Or.inl rfl) rfl rfl d_Al_add2_19 (fun H locs hW => ?_)
  exact bw_vret C hW ⟨rfl, hq⟩ d_Al_add2_22 (Nat.le_trans (Nat.le_add_right _ _) hc) (Nat.le_trans (Nat.le_add_right _ _) hs)
def wp_Al_add2 (e0 mi : Nat) (x0 : Nat) (x1 : Option Nat) (x2 : Option Nat) (x3 : Int32) (w : Wd) (nc ns : Nat) (Q : Wd → Prop) : Prop :=
  ∃ n1 : Nat, bw_len e0 w x2 n1 ∧ ((¬ x3 = (nI n1) → (wb_Al_add2_11 e0 mi Q x0 x1 x2 x3 w nc ns)) ∧ (x3 = (nI n1) → (bw_is w x0 7 ∧ (∃ k7 k8 : Nat, k7 ≤ nc ∧ k8 ≤ ns ∧ wp_Al_grow e0 mi x0 w k7 k8 (fun r11 w6 => wb_Al_add2_11 e0 mi Q x0 x1 r11 x3 w6 (nc - k7) (ns - k8))))))
set_option maxHeartbeats 4000000 in
set_option maxRecDepth 100000 in
theorem k_Al_add2_0 {p : Program} {l : Launch} {e : Env} {s : State} {m : MethodId} {args : Array Value} {below : List Frame} {meth : Method} {c : Code} {D : va_G} {AC : Nat → ClassId} {e0 mi : Nat} {A : Nat → Prop} {mc ms : Nat} {Q : Wd → Prop} (C : Cx p l s m args meth c D AC e0 mi A n_Al_add2 b_Al_add2 4 none) (x0 : Nat) (x1 : Option Nat) (x2 : Option Nat) (x3 : Int32) (w : Wd) (nc ns : Nat) (hq : wp_Al_add2 e0 mi x0 x1 x2 x3 w nc ns Q) : ∀ (H : Heap) (locs : List Loc) (cells slots : Nat) (ls : Array Slot), HW D cls8 FTc AC A s.heap H locs w → lv_has ls 4 [(0, va_rf (some x0)), (1, va_rf x1), (2, va_rf x2), (3, .int x3)] → cells + nc ≤ mc → slots + ns ≤ ms → W p l e { frames := 5, cells := mc, slots := ms, locals := 127 } s m args below meth c H locs cells slots (vx_MQ below (QQ D AC A (fun v w9 => v = none ∧ Q w9)) (XX D AC A (fun _ _ => False)) args s mc ms A) (F0 m 0 ls []) := by
  obtain ⟨hl0, hx, hb, hr, ht, hown, hlocks, hnm, hml, hex, hK, hA, hZ, hV⟩ := id C
  intro H locs cells slots ls hW hl hc hs
  unfold wp_Al_add2 at hq
  refine lv_iload_n hx hb d_Al_add2_0 rfl (lv_at hl 3 rfl) ?_
  refine bw_aload_n hx hb d_Al_add2_1 rfl (lv_at hl 2 rfl) ?_
  obtain ⟨n1, h2, hq⟩ := hq
  refine bw_alenq C hW h2 d_Al_add2_2 ?_
  refine lv_icmp_ne (tgt := 11) hx hb d_Al_add2_3 (by decide) (fun c3 => ?_) (fun c3 => ?_)
  · have hq := hq.1 c3
    exact k_Al_add2_11 C  _ _ _ _ _ _ _ hq _ _ _ _ _ hW (lv_sub hl [0, 1, 2, 3] rfl) hc hs
  · have hq := hq.2 c3
    refine bw_aload_n hx hb d_Al_add2_6 rfl (lv_at hl 0 rfl) ?_
    obtain ⟨t4, hq⟩ := hq
    obtain ⟨k7, k8, h9, h10, hq⟩ := hq
    refine bw_callV (As := []) (rest := []) C hW ci_Al_grow m_282 m_284 sel_Al_grow d_Al_add2_7 rfl t4 (by decide) rfl rfl rfl hl.1 (by decide) ⟨Nat.le_of_ble_eq_true rfl, Nat.le_of_ble_eq_true rfl⟩ ⟨Nat.le_trans (Nat.add_le_add_left h9 _) hc, Nat.le_trans (Nat.add_le_add_left h10 _) hs⟩ (c_Al_grow hl0 _ _ _ _ hq) (fun _ _ _ _ _ _ h => h.elim) (fun v5 w6 H locs hv hW => ?_)
    obtain ⟨r11, rfl, hq⟩ := hv
    have hc := bw_bud hc h9
    have hs := bw_bud hs h10
    refine W.eq (g2 := F0 m 10 ls [va_rf r11]) rfl ?_
    refine bw_astore_n (i := 2) (lv' := [(2, va_rf r11), (0, va_rf (some x0)), (1, va_rf x1), (3, .int x3)]) hx hb d_Al_add2_10 rfl hl (by decide) (by simp [bw_cat, cat_i, cat_j]) (fun ls hl => ?_)
    exact k_Al_add2_11 C  _ _ _ _ _ _ _ hq _ _ _ _ _ hW (lv_sub hl [1, 2, 0, 3] rfl) hc hs
theorem ci_Al_add2 : CI n_Al_add2 b_Al_add2 4 none 3 := ⟨m_281, m_4, by decide, by decide, by decide +kernel⟩
theorem sel_Al_add2 : Cond.selects "java/util/ArrayList" n_Al_add2 n_Al_add2 ∈ TBL := List.mem_filter.mpr ⟨List.mem_append_left _ (List.mem_map.mpr ⟨(n_Al_add2, 3), by decide +kernel, rfl⟩), rfl⟩
theorem c_Al_add2 {l : Launch} {D : va_G} {AC : Nat → ClassId} {e0 mi : Nat} {Q : Wd → Prop} (hl0 : l.stackTraces = false) (x0 : Nat) (x1 : Option Nat) (x2 : Option Nat) (x3 : Int32) (w : Wd) (nc ns : Nat) (hq : wp_Al_add2 e0 mi x0 x1 x2 x3 w nc ns Q) : Ct l D AC e0 mi n_Al_add2 (wy n_Al_add2 b_Al_add2 4 none) 5 127 [va_rf (some x0), va_rf x1, va_rf x2, .int x3] w nc ns (fun v w9 => v = none ∧ Q w9) (fun _ _ => False) :=
  Ct.of hl0 (by decide) (by simp [lg_sl, bw_cat, cat_i, cat_j]) (fun p e s m args below meth c A ls C hW hl => k_Al_add2_0 C x0 x1 x2 x3 w nc ns hq s.heap [] 0 0 ls hW (by simpa [lv_args, bw_cat, cat_i, cat_j] using hl) (Nat.le_of_eq (Nat.zero_add _)) (Nat.le_of_eq (Nat.zero_add _)))
def wp_Al_add (e0 mi : Nat) (x0 : Nat) (x1 : Option Nat) (w : Wd) (nc ns : Nat) (Q : Int32 → Wd → Prop) : Prop :=
  bw_is w x0 7 ∧ (∃ k4 k5 : Nat, k4 ≤ nc ∧ k5 ≤ ns ∧ wp_Al_add2 e0 mi x0 x1 (wR (sI w x0 0 ((wI w x0 0) + (1 : Int32))) x0 1) (wI (sI w x0 0 ((wI w x0 0) + (1 : Int32))) x0 2) (sI w x0 0 ((wI w x0 0) + (1 : Int32))) k4 k5 (fun w3 => Q (1 : Int32) w3))
set_option maxHeartbeats 4000000 in
set_option maxRecDepth 100000 in
theorem k_Al_add_0 {p : Program} {l : Launch} {e : Env} {s : State} {m : MethodId} {args : Array Value} {below : List Frame} {meth : Method} {c : Code} {D : va_G} {AC : Nat → ClassId} {e0 mi : Nat} {A : Nat → Prop} {mc ms : Nat} {Q : Int32 → Wd → Prop} (C : Cx p l s m args meth c D AC e0 mi A n_Al_add b_Al_add 2 (some .boolean)) (x0 : Nat) (x1 : Option Nat) (w : Wd) (nc ns : Nat) (hq : wp_Al_add e0 mi x0 x1 w nc ns Q) : ∀ (H : Heap) (locs : List Loc) (cells slots : Nat) (ls : Array Slot), HW D cls8 FTc AC A s.heap H locs w → lv_has ls 2 [(0, va_rf (some x0)), (1, va_rf x1)] → cells + nc ≤ mc → slots + ns ≤ ms → W p l e { frames := 6, cells := mc, slots := ms, locals := 150 } s m args below meth c H locs cells slots (vx_MQ below (QQ D AC A (fun v w9 => ∃ r9 : Int32, v = some (.int r9) ∧ Q r9 w9)) (XX D AC A (fun _ _ => False)) args s mc ms A) (F0 m 0 ls []) := by
  obtain ⟨hl0, hx, hb, hr, ht, hown, hlocks, hnm, hml, hex, hK, hA, hZ, hV⟩ := id C
  intro H locs cells slots ls hW hl hc hs
  unfold wp_Al_add at hq
  refine bw_aload_n hx hb d_Al_add_0 rfl (lv_at hl 0 rfl) ?_
  refine lv_dup hx hb d_Al_add_1 (bw_cat _) ?_
  obtain ⟨t1, hq⟩ := hq
  refine bw_getI hx hb ht in_Al hown hK hW rfl t1 (by decide) rfl 0 (by decide) rfl (ht _ m_50) (u_same (ht _ m_51)) d_Al_add_2 ?_
  refine lv_iconst (v := 1) hx hb d_Al_add_5 (by decide) ?_
  refine lv_iadd hx hb d_Al_add_6 ?_
  refine bw_putI hx hb ht in_Al y_Al yk_Al nm_Al hown hK hW rfl t1 (by decide) rfl 0 (by decide) rfl (ht _ m_50) (u_same (ht _ m_51)) (Or.inl rfl) rfl rfl d_Al_add_7 (fun H locs hW => ?_)
  refine bw_aload_n hx hb d_Al_add_10 rfl (lv_at hl 0 rfl) ?_
  refine bw_aload_n hx hb d_Al_add_11 rfl (lv_at hl 1 rfl) ?_
  refine bw_aload_n hx hb d_Al_add_12 rfl (lv_at hl 0 rfl) ?_
  refine bw_getR hx hb ht in_Al hown hK hW rfl t1 (by decide) rfl 1 (by decide) rfl (ht _ m_47) (fun _ h => h) d_Al_add_13 ?_
  refine bw_aload_n hx hb d_Al_add_16 rfl (lv_at hl 0 rfl) ?_
  refine bw_getI hx hb ht in_Al hown hK hW rfl t1 (by decide) rfl 2 (by decide) rfl (ht _ m_48) (fun _ h => h) d_Al_add_17 ?_
  obtain ⟨k4, k5, h6, h7, hq⟩ := hq
  refine bw_callV (As := [va_rf x1, va_rf (wR (sI w x0 0 ((wI w x0 0) + (1 : Int32))) x0 1), .int (wI (sI w x0 0 ((wI w x0 0) + (1 : Int32))) x0 2)]) (rest := []) C hW ci_Al_add2 m_278 m_280 sel_Al_add2 d_Al_add_20 rfl t1 (by decide) rfl rfl rfl hl.1 (by decide) ⟨Nat.le_of_ble_eq_true rfl, Nat.le_of_ble_eq_true rfl⟩ ⟨Nat.le_trans (Nat.add_le_add_left h6 _) hc, Nat.le_trans (Nat.add_le_add_left h7 _) hs⟩ (c_Al_add2 hl0 _ _ _ _ _ _ _ hq) (fun _ _ _ _ _ _ h => h.elim) (fun v2 w3 H locs hv hW => ?_)
  obtain ⟨rfl, hq⟩ := hv
  have hc := bw_bud hc h6
  have hs := bw_bud hs h7
  refine W.eq (g2 := F0 m 23 ls []) rfl ?_
  refine lv_iconst (v := 1) hx hb d_Al_add_23 (by decide) ?_
  exact bw_zret C hW rfl ⟨_, rfl, hq⟩ d_Al_add_24 (Nat.le_trans (Nat.le_add_right _ _) hc) (Nat.le_trans (Nat.le_add_right _ _) hs)
theorem ci_Al_add : CI n_Al_add b_Al_add 2 (some .boolean) 1 := ⟨m_277, m_4, by decide, by decide, by decide +kernel⟩
theorem c_Al_add {l : Launch} {D : va_G} {AC : Nat → ClassId} {e0 mi : Nat} {Q : Int32 → Wd → Prop} (hl0 : l.stackTraces = false) (x0 : Nat) (x1 : Option Nat) (w : Wd) (nc ns : Nat) (hq : wp_Al_add e0 mi x0 x1 w nc ns Q) : Ct l D AC e0 mi n_Al_add (wy n_Al_add b_Al_add 2 (some .boolean)) 6 150 [va_rf (some x0), va_rf x1] w nc ns (fun v w9 => ∃ r9 : Int32, v = some (.int r9) ∧ Q r9 w9) (fun _ _ => False) :=
  Ct.of hl0 (by decide) (by simp [lg_sl, bw_cat, cat_i, cat_j]) (fun p e s m args below meth c A ls C hW hl => k_Al_add_0 C x0 x1 w nc ns hq s.heap [] 0 0 ls hW (by simpa [lv_args, bw_cat, cat_i, cat_j] using hl) (Nat.le_of_eq (Nat.zero_add _)) (Nat.le_of_eq (Nat.zero_add _)))
def wp_Al_set (e0 mi : Nat) (x0 : Nat) (x1 : Int32) (x2 : Option Nat) (w : Wd) (Q : Option Nat → Wd → Prop) : Prop :=
  bw_is w x0 7 ∧ (wp_Ob_checkIndex e0 mi x1 (wI w x0 2) w (fun i8 w3 => bw_is w3 x0 7 ∧ (wp_Al_elementData e0 mi x0 x1 w3 (fun r16 w11 => bw_is w11 x0 7 ∧ (∃ a18 : Nat, (wR w11 x0 1) = some a18 ∧ (bw_is w11 a18 100 ∧ (vp_in x1 (wN w11 a18) ∧ (∀ b22, x2 = some b22 → ∃ cn, bw_is w11 b22 cn ∧ cn < 6 ∧ cn ≠ 5) ∧ (Q r16 (sR w11 a18 x1.toNatClampNeg x2)))))))))
set_option maxHeartbeats 4000000 in
set_option maxRecDepth 100000 in
theorem k_Al_set_0 {p : Program} {l : Launch} {e : Env} {s : State} {m : MethodId} {args : Array Value} {below : List Frame} {meth : Method} {c : Code} {D : va_G} {AC : Nat → ClassId} {e0 mi : Nat} {A : Nat → Prop} {mc ms : Nat} {Q : Option Nat → Wd → Prop} (C : Cx p l s m args meth c D AC e0 mi A n_Al_set b_Al_set 4 (some (.object "java/lang/Object"))) (x0 : Nat) (x1 : Int32) (x2 : Option Nat) (w : Wd) (hq : wp_Al_set e0 mi x0 x1 x2 w Q) : ∀ (H : Heap) (locs : List Loc) (cells slots : Nat) (ls : Array Slot), HW D cls8 FTc AC A s.heap H locs w → lv_has ls 4 [(0, va_rf (some x0)), (1, .int x1), (2, va_rf x2)] → cells ≤ mc → slots ≤ ms → W p l e { frames := 2, cells := mc, slots := ms, locals := 43 } s m args below meth c H locs cells slots (vx_MQ below (QQ D AC A (fun v w9 => ∃ r9 : Option Nat, v = some (va_rf r9) ∧ Q r9 w9)) (XX D AC A (fun _ _ => False)) args s mc ms A) (F0 m 0 ls []) := by
  obtain ⟨hl0, hx, hb, hr, ht, hown, hlocks, hnm, hml, hex, hK, hA, hZ, hV⟩ := id C
  intro H locs cells slots ls hW hl hc hs
  unfold wp_Al_set at hq
  refine lv_iload_n hx hb d_Al_set_0 rfl (lv_at hl 1 rfl) ?_
  refine bw_aload_n hx hb d_Al_set_1 rfl (lv_at hl 0 rfl) ?_
  obtain ⟨t1, hq⟩ := hq
  refine bw_getI hx hb ht in_Al hown hK hW rfl t1 (by decide) rfl 2 (by decide) rfl (ht _ m_48) (fun _ h => h) d_Al_set_2 ?_
  refine bw_callS (As := [.int x1, .int (wI w x0 2)]) (rest := []) C hW ci_Ob_checkIndex m_103 m_104 d_Al_set_5 rfl rfl hl.1 (by decide) ⟨Nat.le_of_ble_eq_true rfl, Nat.le_of_ble_eq_true rfl⟩ ⟨hc, hs⟩ (c_Ob_checkIndex hl0 _ _ _ hq) (fun _ _ _ _ _ _ h => h.elim) (fun v2 w3 H locs hv hW => ?_)
  obtain ⟨i8, rfl, hq⟩ := hv
  refine W.eq (g2 := F0 m 8 ls [.int i8]) rfl ?_
  refine lv_pop hx hb d_Al_set_8 rfl ?_
  refine bw_aload_n hx hb d_Al_set_9 rfl (lv_at hl 0 rfl) ?_
  refine lv_iload_n hx hb d_Al_set_10 rfl (lv_at hl 1 rfl) ?_
  obtain ⟨t9, hq⟩ := hq
  refine bw_callV (As := [.int x1]) (rest := []) C hW ci_Al_elementData m_109 m_110 m_111 d_Al_set_11 rfl t9 (by decide) rfl rfl rfl hl.1 (by decide) ⟨Nat.le_of_ble_eq_true rfl, Nat.le_of_ble_eq_true rfl⟩ ⟨hc, hs⟩ (c_Al_elementData hl0 _ _ _ hq) (fun _ _ _ _ _ _ h => h.elim) (fun v10 w11 H locs hv hW => ?_)
  obtain ⟨r16, rfl, hq⟩ := hv
  refine W.eq (g2 := F0 m 14 ls [va_rf r16]) rfl ?_
  refine bw_astore_n (i := 3) (lv' := [(3, va_rf r16), (0, va_rf (some x0)), (1, .int x1), (2, va_rf x2)]) hx hb d_Al_set_14 rfl hl (by decide) (by simp [bw_cat, cat_i, cat_j]) (fun ls hl => ?_)
  refine bw_aload_n hx hb d_Al_set_15 rfl (lv_at hl 1 rfl) ?_
  obtain ⟨t17, hq⟩ := hq
  refine bw_getR hx hb ht in_Al hown hK hW rfl t17 (by decide) rfl 1 (by decide) rfl (ht _ m_47) (fun _ h => h) d_Al_set_16 ?_
  refine lv_iload_n hx hb d_Al_set_19 rfl (lv_at hl 2 rfl) ?_
  refine bw_aload_n hx hb d_Al_set_20 rfl (lv_at hl 3 rfl) ?_
  obtain ⟨a18, ea18, hq⟩ := hq
  obtain ⟨t19, hq⟩ := hq
  obtain ⟨h20, hq⟩ := hq
  obtain ⟨h21, hq⟩ := hq
  refine bw_aast C hW ea18 t19 h20 h21 d_Al_set_21 (fun H locs hW => ?_)
  refine bw_aload_n hx hb d_Al_set_22 rfl (lv_at hl 0 rfl) ?_
  exact bw_aret C (Or.inl ⟨_, rfl⟩) hW ⟨_, rfl, hq⟩ d_Al_set_23 hc hs
theorem ci_Al_set : CI n_Al_set b_Al_set 4 (some (.object "java/lang/Object")) 2 := ⟨m_558, m_4, by decide, by decide, by decide +kernel⟩
theorem c_Al_set {l : Launch} {D : va_G} {AC : Nat → ClassId} {e0 mi : Nat} {Q : Option Nat → Wd → Prop} (hl0 : l.stackTraces = false) (x0 : Nat) (x1 : Int32) (x2 : Option Nat) (w : Wd) (hq : wp_Al_set e0 mi x0 x1 x2 w Q) : Ct l D AC e0 mi n_Al_set (wy n_Al_set b_Al_set 4 (some (.object "java/lang/Object"))) 2 43 [va_rf (some x0), .int x1, va_rf x2] w 0 0 (fun v w9 => ∃ r9 : Option Nat, v = some (va_rf r9) ∧ Q r9 w9) (fun _ _ => False) :=
  Ct.of hl0 (by decide) (by simp [lg_sl, bw_cat, cat_i, cat_j]) (fun p e s m args below meth c A ls C hW hl => k_Al_set_0 C x0 x1 x2 w hq s.heap [] 0 0 ls hW (by simpa [lv_args, bw_cat, cat_i, cat_j] using hl) (Nat.le_refl _) (Nat.le_refl _))
def wb_Al_fastRemove_34 (e0 mi : Nat) (Q : Wd → Prop) (x0 : Nat) (x1 : Option Nat) (x2 : Int32) (x3 : Int32) (w : Wd) : Prop :=
  bw_is w x0 7 ∧ (∃ a2 : Nat, x1 = some a2 ∧ (bw_is (sI w x0 2 x3) a2 100 ∧ (vp_in x3 (wN (sI w x0 2 x3) a2) ∧ (∀ b6, none = some b6 → ∃ cn, bw_is (sI w x0 2 x3) b6 cn ∧ cn < 6 ∧ cn ≠ 5) ∧ (Q (sR (sI w x0 2 x3) a2 x3.toNatClampNeg none)))))
set_option maxHeartbeats 4000000 in
set_option maxRecDepth 100000 in
theorem k_Al_fastRemove_34 {p : Program} {l : Launch} {e : Env} {s : State} {m : MethodId} {args : Array Value} {below : List Frame} {meth : Method} {c : Code} {D : va_G} {AC : Nat → ClassId} {e0 mi : Nat} {A : Nat → Prop} {mc ms : Nat} {Q : Wd → Prop} (C : Cx p l s m args meth c D AC e0 mi A n_Al_fastRemove b_Al_fastRemove 4 none) (x0 : Nat) (x1 : Option Nat) (x2 : Int32) (x3 : Int32) (w : Wd) (hq : wb_Al_fastRemove_34 e0 mi Q x0 x1 x2 x3 w) : ∀ (H : Heap) (locs : List Loc) (cells slots : Nat) (ls : Array Slot), HW D cls8 FTc AC A s.heap H locs w → lv_has ls 4 [(0, va_rf (some x0)), (1, va_rf x1), (2, .int x2), (3, .int x3)] → cells ≤ mc → slots ≤ ms → W p l e { frames := 1, cells := mc, slots := ms, locals := 40 } s m args below meth c H locs cells slots (vx_MQ below (QQ D AC A (fun v w9 => v = none ∧ Q w9)) (XX D AC A (fun _ _ => False)) args s mc ms A) (F0 m 34 ls []) := by
  obtain ⟨hl0, hx, hb, hr, ht, hown, hlocks, hnm, hml, hex, hK, hA, hZ, hV⟩ := id C
  intro H locs cells slots ls hW hl hc hs
  unfold wb_Al_fastRemove_34 at hq
  refine bw_aload_n hx hb d_Al_fastRemove_34 rfl (lv_at hl 1 rfl) ?_
  refine bw_aload_n hx hb d_Al_fastRemove_35 rfl (lv_at hl 0 rfl) ?_
  refine lv_iload_n hx hb d_Al_fastRemove_36 rfl (lv_at hl 3 rfl) ?_
  refine lv_dup_x1 hx hb d_Al_fastRemove_37 rfl (bw_cat _) ?_
  obtain ⟨t1, hq⟩ := hq
  refine bw_putI hx hb ht in_Al y_Al yk_Al nm_Al hown hK hW rfl t1 (by decide) rfl 2 (by decide) rfl (ht _ m_48) (fun _ h => h) (Or.inl rfl) rfl rfl d_Al_fastRemove_38 (fun H locs hW => ?_)
  refine bw_null hx hb d_Al_fastRemove_41 ?_
  obtain ⟨a2, ea2, hq⟩ := hq
  obtain ⟨t3, hq⟩ := hq
  obtain ⟨h4, hq⟩ := hq
  obtain ⟨h5, hq⟩ := hq
  refine bw_aast C hW ea2 t3 h4 h5 d_Al_fastRemove_42 (fun H locs hW => ?_)
  exact bw_vret C hW ⟨rfl, hq⟩ d_Al_fastRemove_43 hc hs
def wp_Al_fastRemove (e0 mi : Nat) (x0 : Nat) (x1 : Option Nat) (x2 : Int32) (w : Wd) (Q : Wd → Prop) : Prop :=
  bw_is w x0 7 ∧ (∀ i2 : Int32, i2 = (wI (sI w x0 0 ((wI w x0 0) + (1 : Int32))) x0 2) - (1 : Int32) → ((((wI (sI w x0 0 ((wI w x0 0) + (1 : Int32))) x0 2) - (1 : Int32)) ≤ x2 → (wb_Al_fastRemove_34 e0 mi Q x0 x1 x2 i2 (sI w x0 0 ((wI w x0 0) + (1 : Int32))))) ∧ (¬ ((wI (sI w x0 0 ((wI w x0 0) + (1 : Int32))) x0 2) - (1 : Int32)) ≤ x2 → (∃ a4 : Nat, x1 = some a4 ∧ (bw_is (sI w x0 0 ((wI w x0 0) + (1 : Int32))) a4 100 ∧ (¬ (x2 + (1 : Int32)) < 0 ∧ ¬ x2 < 0 ∧ ¬ (i2 - x2) < 0 ∧ (x2 + (1 : Int32)).toNatClampNeg + (i2 - x2).toNatClampNeg ≤ wN (sI w x0 0 ((wI w x0 0) + (1 : Int32))) a4 ∧ x2.toNatClampNeg + (i2 - x2).toNatClampNeg ≤ wN (sI w x0 0 ((wI w x0 0) + (1 : Int32))) a4 ∧ (∀ i12 : Nat, i12 < (i2 - x2).toNatClampNeg → bw_el (sI w x0 0 ((wI w x0 0) + (1 : Int32))) (wR (sI w x0 0 ((wI w x0 0) + (1 : Int32))) a4 ((x2 + (1 : Int32)).toNatClampNeg + i12))) ∧ (wb_Al_fastRemove_34 e0 mi Q x0 x1 x2 i2 (sRow (sI w x0 0 ((wI w x0 0) + (1 : Int32))) a4 (va_cpy (wR (sI w x0 0 ((wI w x0 0) + (1 : Int32))) a4) (wR (sI w x0 0 ((wI w x0 0) + (1 : Int32))) a4) (x2 + (1 : Int32)).toNatClampNeg x2.toNatClampNeg (i2 - x2).toNatClampNeg)))))))))
set_option maxHeartbeats 4000000 in
set_option maxRecDepth 100000 in
theorem k_Al_fastRemove_0 {p : Program} {l : Launch} {e : Env} {s : State} {m : MethodId} {args : Array Value} {below : List Frame} {meth : Method} {c : Code} {D : va_G} {AC : Nat → ClassId} {e0 mi : Nat} {A : Nat → Prop} {mc ms : Nat} {Q : Wd → Prop} (C : Cx p l s m args meth c D AC e0 mi A n_Al_fastRemove b_Al_fastRemove 4 none) (x0 : Nat) (x1 : Option Nat) (x2 : Int32) (w : Wd) (hq : wp_Al_fastRemove e0 mi x0 x1 x2 w Q) : ∀ (H : Heap) (locs : List Loc) (cells slots : Nat) (ls : Array Slot), HW D cls8 FTc AC A s.heap H locs w → lv_has ls 4 [(0, va_rf (some x0)), (1, va_rf x1), (2, .int x2)] → cells ≤ mc → slots ≤ ms → W p l e { frames := 1, cells := mc, slots := ms, locals := 40 } s m args below meth c H locs cells slots (vx_MQ below (QQ D AC A (fun v w9 => v = none ∧ Q w9)) (XX D AC A (fun _ _ => False)) args s mc ms A) (F0 m 0 ls []) := by
  obtain ⟨hl0, hx, hb, hr, ht, hown, hlocks, hnm, hml, hex, hK, hA, hZ, hV⟩ := id C
  intro H locs cells slots ls hW hl hc hs
  unfold wp_Al_fastRemove at hq
  refine bw_aload_n hx hb d_Al_fastRemove_0 rfl (lv_at hl 0 rfl) ?_
  refine lv_dup hx hb d_Al_fastRemove_1 (bw_cat _) ?_
  obtain ⟨t1, hq⟩ := hq
  refine bw_getI hx hb ht in_Al hown hK hW rfl t1 (by decide) rfl 0 (by decide) rfl (ht _ m_50) (u_same (ht _ m_51)) d_Al_fastRemove_2 ?_
  refine lv_iconst (v := 1) hx hb d_Al_fastRemove_5 (by decide) ?_
  refine lv_iadd hx hb d_Al_fastRemove_6 ?_
  refine bw_putI hx hb ht in_Al y_Al yk_Al nm_Al hown hK hW rfl t1 (by decide) rfl 0 (by decide) rfl (ht _ m_50) (u_same (ht _ m_51)) (Or.inl rfl) rfl rfl d_Al_fastRemove_7 (fun H locs hW => ?_)
  refine bw_aload_n hx hb d_Al_fastRemove_10 rfl (lv_at hl 0 rfl) ?_
  refine bw_getI hx hb ht in_Al hown hK hW rfl t1 (by decide) rfl 2 (by decide) rfl (ht _ m_48) (fun _ h => h) d_Al_fastRemove_11 ?_
  refine lv_iconst (v := 1) hx hb d_Al_fastRemove_14 (by decide) ?_
  refine lv_isub hx hb d_Al_fastRemove_15 ?_
  refine lv_dup hx hb d_Al_fastRemove_16 rfl ?_
  refine lv_topi (fun i2 ei2 => ?_)
  have hq := hq i2 ei2
  refine lv_istore_n (i := 3) (lv' := [(3, .int i2), (0, va_rf (some x0)), (1, va_rf x1), (2, .int x2)]) hx hb d_Al_fastRemove_17 rfl hl (by decide) (by simp [bw_cat, cat_i, cat_j]) (fun ls hl => ?_)
  refine lv_iload_n hx hb d_Al_fastRemove_18 rfl (lv_at hl 3 rfl) ?_
  refine lv_icmp_le (tgt := 34) hx hb d_Al_fastRemove_19 (by decide) (fun c3 => ?_) (fun c3 => ?_)
  · have hq := hq.1 c3
    exact k_Al_fastRemove_34 C  _ _ _ _ _ hq _ _ _ _ _ hW (lv_sub hl [1, 2, 3, 0] rfl) hc hs
  · have hq := hq.2 c3
    refine bw_aload_n hx hb d_Al_fastRemove_22 rfl (lv_at hl 2 rfl) ?_
    refine lv_iload_n hx hb d_Al_fastRemove_23 rfl (lv_at hl 3 rfl) ?_
    refine lv_iconst (v := 1) hx hb d_Al_fastRemove_24 (by decide) ?_
    refine lv_iadd hx hb d_Al_fastRemove_25 ?_
    refine bw_aload_n hx hb d_Al_fastRemove_26 rfl (lv_at hl 2 rfl) ?_
    refine lv_iload_n hx hb d_Al_fastRemove_27 rfl (lv_at hl 3 rfl) ?_
    refine lv_iload_n hx hb d_Al_fastRemove_28 rfl (lv_at hl 0 rfl) ?_
    refine lv_iload_n hx hb d_Al_fastRemove_29 rfl (lv_at hl 3 rfl) ?_
    refine lv_isub hx hb d_Al_fastRemove_30 ?_
    obtain ⟨a4, ea4, hq⟩ := hq
    obtain ⟨t5, hq⟩ := hq
    obtain ⟨h6, h7, h8, h9, h10, h11, hq⟩ := hq
    refine bw_copy C hW hl.1 m_567 m_331 m_330 m_16 ea4 ea4 t5 t5 h6 h7 h8 h9 h10 h11 (Nat.le_of_ble_eq_true rfl) (by exact Nat.le_of_ble_eq_true rfl) d_Al_fastRemove_31 (fun H locs hW => ?_)
    exact k_Al_fastRemove_34 C  _ _ _ _ _ hq _ _ _ _ _ hW (lv_sub hl [1, 2, 3, 0] rfl) hc hs
theorem ci_Al_fastRemove : CI n_Al_fastRemove b_Al_fastRemove 4 none 2 := ⟨m_566, m_4, by decide, by decide, by decide +kernel⟩
theorem sel_Al_fastRemove : Cond.selects "java/util/ArrayList" n_Al_fastRemove n_Al_fastRemove ∈ TBL := List.mem_filter.mpr ⟨List.mem_append_left _ (List.mem_map.mpr ⟨(n_Al_fastRemove, 3), by decide +kernel, rfl⟩), rfl⟩
theorem c_Al_fastRemove {l : Launch} {D : va_G} {AC : Nat → ClassId} {e0 mi : Nat} {Q : Wd → Prop} (hl0 : l.stackTraces = false) (x0 : Nat) (x1 : Option Nat) (x2 : Int32) (w : Wd) (hq : wp_Al_fastRemove e0 mi x0 x1 x2 w Q) : Ct l D AC e0 mi n_Al_fastRemove (wy n_Al_fastRemove b_Al_fastRemove 4 none) 1 40 [va_rf (some x0), va_rf x1, .int x2] w 0 0 (fun v w9 => v = none ∧ Q w9) (fun _ _ => False) :=
  Ct.of hl0 (by decide) (by simp [lg_sl, bw_cat, cat_i, cat_j]) (fun p e s m args below meth c A ls C hW hl => k_Al_fastRemove_0 C x0 x1 x2 w hq s.heap [] 0 0 ls hW (by simpa [lv_args, bw_cat, cat_i, cat_j] using hl) (Nat.le_refl _) (Nat.le_refl _))
def wp_Al_remove (e0 mi : Nat) (x0 : Nat) (x1 : Int32) (w : Wd) (Q : Option Nat → Wd → Prop) : Prop :=
  bw_is w x0 7 ∧ (wp_Ob_checkIndex e0 mi x1 (wI w x0 2) w (fun i8 w3 => bw_is w3 x0 7 ∧ (∀ r10 : Option Nat, r10 = wR w3 x0 1 → (∃ a11 : Nat, r10 = some a11 ∧ (bw_is w3 a11 100 ∧ (vp_in x1 (wN w3 a11) ∧ (∀ r14 : Option Nat, r14 = wR w3 a11 x1.toNatClampNeg → (wp_Al_fastRemove e0 mi x0 r10 x1 w3 (fun w16 => Q r14 w16)))))))))
set_option maxHeartbeats 4000000 in
set_option maxRecDepth 100000 in
theorem k_Al_remove_0 {p : Program} {l : Launch} {e : Env} {s : State} {m : MethodId} {args : Array Value} {below : List Frame} {meth : Method} {c : Code} {D : va_G} {AC : Nat → ClassId} {e0 mi : Nat} {A : Nat → Prop} {mc ms : Nat} {Q : Option Nat → Wd → Prop} (C : Cx p l s m args meth c D AC e0 mi A n_Al_remove b_Al_remove 4 (some (.object "java/lang/Object"))) (x0 : Nat) (x1 : Int32) (w : Wd) (hq : wp_Al_remove e0 mi x0 x1 w Q) : ∀ (H : Heap) (locs : List Loc) (cells slots : Nat) (ls : Array Slot), HW D cls8 FTc AC A s.heap H locs w → lv_has ls 4 [(0, va_rf (some x0)), (1, .int x1)] → cells ≤ mc → slots ≤ ms → W p l e { frames := 2, cells := mc, slots := ms, locals := 63 } s m args below meth c H locs cells slots (vx_MQ below (QQ D AC A (fun v w9 => ∃ r9 : Option Nat, v = some (va_rf r9) ∧ Q r9 w9)) (XX D AC A (fun _ _ => False)) args s mc ms A) (F0 m 0 ls []) := by
  obtain ⟨hl0, hx, hb, hr, ht, hown, hlocks, hnm, hml, hex, hK, hA, hZ, hV⟩ := id C
  intro H locs cells slots ls hW hl hc hs
  unfold wp_Al_remove at hq
  refine lv_iload_n hx hb d_Al_remove_0 rfl (lv_at hl 1 rfl) ?_
  refine bw_aload_n hx hb d_Al_remove_1 rfl (lv_at hl 0 rfl) ?_
  obtain ⟨t1, hq⟩ := hq
  refine bw_getI hx hb ht in_Al hown hK hW rfl t1 (by decide) rfl 2 (by decide) rfl (ht _ m_48) (fun _ h => h) d_Al_remove_2 ?_
  refine bw_callS (As := [.int x1, .int (wI w x0 2)]) (rest := []) C hW ci_Ob_checkIndex m_103 m_104 d_Al_remove_5 rfl rfl hl.1 (by decide) ⟨Nat.le_of_ble_eq_true rfl, Nat.le_of_ble_eq_true rfl⟩ ⟨hc, hs⟩ (c_Ob_checkIndex hl0 _ _ _ hq) (fun _ _ _ _ _ _ h => h.elim) (fun v2 w3 H locs hv hW => ?_)
  obtain ⟨i8, rfl, hq⟩ := hv
  refine W.eq (g2 := F0 m 8 ls [.int i8]) rfl ?_
  refine lv_pop hx hb d_Al_remove_8 rfl ?_
  refine bw_aload_n hx hb d_Al_remove_9 rfl (lv_at hl 0 rfl) ?_
  obtain ⟨t9, hq⟩ := hq
  refine bw_getR hx hb ht in_Al hown hK hW rfl t9 (by decide) rfl 1 (by decide) rfl (ht _ m_47) (fun _ h => h) d_Al_remove_10 ?_
  refine bw_topr (fun r10 er10 => ?_)
  have hq := hq r10 er10
  refine bw_astore_n (i := 2) (lv' := [(2, va_rf r10), (0, va_rf (some x0)), (1, .int x1)]) hx hb d_Al_remove_13 rfl hl (by decide) (by simp [bw_cat, cat_i, cat_j]) (fun ls hl => ?_)
  refine bw_aload_n hx hb d_Al_remove_14 rfl (lv_at hl 0 rfl) ?_
  refine lv_iload_n hx hb d_Al_remove_15 rfl (lv_at hl 2 rfl) ?_
  obtain ⟨a11, ea11, hq⟩ := hq
  obtain ⟨t12, hq⟩ := hq
  obtain ⟨h13, hq⟩ := hq
  refine bw_aald C hW ea11 t12 h13 d_Al_remove_16 ?_
  refine bw_topr (fun r14 er14 => ?_)
  have hq := hq r14 er14
  refine bw_astore_n (i := 3) (lv' := [(3, va_rf r14), (2, va_rf r10), (0, va_rf (some x0)), (1, .int x1)]) hx hb d_Al_remove_17 rfl hl (by decide) (by simp [bw_cat, cat_i, cat_j]) (fun ls hl => ?_)
  refine bw_aload_n hx hb d_Al_remove_18 rfl (lv_at hl 2 rfl) ?_
  refine bw_aload_n hx hb d_Al_remove_19 rfl (lv_at hl 1 rfl) ?_
  refine lv_iload_n hx hb d_Al_remove_20 rfl (lv_at hl 3 rfl) ?_
  refine bw_callV (As := [va_rf r10, .int x1]) (rest := []) C hW ci_Al_fastRemove m_563 m_565 sel_Al_fastRemove d_Al_remove_21 rfl t9 (by decide) rfl rfl rfl hl.1 (by decide) ⟨Nat.le_of_ble_eq_true rfl, Nat.le_of_ble_eq_true rfl⟩ ⟨hc, hs⟩ (c_Al_fastRemove hl0 _ _ _ _ hq) (fun _ _ _ _ _ _ h => h.elim) (fun v15 w16 H locs hv hW => ?_)
  obtain ⟨rfl, hq⟩ := hv
  refine W.eq (g2 := F0 m 24 ls []) rfl ?_
  refine bw_aload_n hx hb d_Al_remove_24 rfl (lv_at hl 0 rfl) ?_
  exact bw_aret C (Or.inl ⟨_, rfl⟩) hW ⟨_, rfl, hq⟩ d_Al_remove_25 hc hs
theorem ci_Al_remove : CI n_Al_remove b_Al_remove 4 (some (.object "java/lang/Object")) 1 := ⟨m_562, m_4, by decide, by decide, by decide +kernel⟩
theorem c_Al_remove {l : Launch} {D : va_G} {AC : Nat → ClassId} {e0 mi : Nat} {Q : Option Nat → Wd → Prop} (hl0 : l.stackTraces = false) (x0 : Nat) (x1 : Int32) (w : Wd) (hq : wp_Al_remove e0 mi x0 x1 w Q) : Ct l D AC e0 mi n_Al_remove (wy n_Al_remove b_Al_remove 4 (some (.object "java/lang/Object"))) 2 63 [va_rf (some x0), .int x1] w 0 0 (fun v w9 => ∃ r9 : Option Nat, v = some (va_rf r9) ∧ Q r9 w9) (fun _ _ => False) :=
  Ct.of hl0 (by decide) (by simp [lg_sl, bw_cat, cat_i, cat_j]) (fun p e s m args below meth c A ls C hW hl => k_Al_remove_0 C x0 x1 w hq s.heap [] 0 0 ls hW (by simpa [lv_args, bw_cat, cat_i, cat_j] using hl) (Nat.le_refl _) (Nat.le_refl _))
