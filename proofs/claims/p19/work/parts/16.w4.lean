/-! printed by wip/gen/walk.py out of the bytecode: Br_checkRange Br_checkOnBelt Br_findBelt Br_findItem Br_belt Br_join Br_run Br_gaps Br_scanner Br_item Br_divert Br_step Br_edge Br_slip Br_take Br_clean Br_gap Br_told Br_known Br_order Br_mean -/
def wb_Br_checkRange_10 (e0 mi : Nat) (Q : Wd → Prop) (X : String → Wd → Prop) (x0 : Int32) (x1 : Int32) (x2 : Int32) (w : Wd) (nc ns : Nat) : Prop :=
  1 ≤ nc ∧ 6 ≤ ns ∧ X "java/lang/IllegalArgumentException" w
set_option maxHeartbeats 4000000 in
set_option maxRecDepth 100000 in
theorem k_Br_checkRange_10 {p : Program} {l : Launch} {e : Env} {s : State} {m : MethodId} {args : Array Value} {below : List Frame} {meth : Method} {c : Code} {D : va_G} {AC : Nat → ClassId} {e0 mi : Nat} {A : Nat → Prop} {mc ms : Nat} {Q : Wd → Prop} {X : String → Wd → Prop} (C : Cx p l s m args meth c D AC e0 mi A n_Br_checkRange b_Br_checkRange 3 none) (x0 : Int32) (x1 : Int32) (x2 : Int32) (w : Wd) (nc ns : Nat) (hq : wb_Br_checkRange_10 e0 mi Q X x0 x1 x2 w nc ns) : ∀ (H : Heap) (locs : List Loc) (cells slots : Nat) (ls : Array Slot), HW D cls8 FTc AC A s.heap H locs w → lv_has ls 3 [(0, .int x0), (1, .int x1), (2, .int x2)] → cells + nc ≤ mc → slots + ns ≤ ms → W p l e { frames := 7, cells := mc, slots := ms, locals := 103 } s m args below meth c H locs cells slots (vx_MQ below (QQ D AC A (fun v w9 => v = none ∧ Q w9)) (XX D AC A X) args s mc ms A) (F0 m 10 ls []) := by
  obtain ⟨hl0, hx, hb, hr, ht, hown, hlocks, hnm, hml, hex, hK, hA, hZ, hV⟩ := id C
  intro H locs cells slots ls hW hl hc hs
  unfold wb_Br_checkRange_10 at hq
  obtain ⟨h1, h2, hq⟩ := hq
  exact bw_throw C hW rfl xa_Ia (ht _ m_126) (is := 225) (text := "a number is outside its range") (by decide +kernel) hq hl.1 h1 h2 hc hs rfl rfl (Nat.le_of_ble_eq_true rfl) (by exact Nat.le_of_ble_eq_true rfl) d_Br_checkRange_10 d_Br_checkRange_13 d_Br_checkRange_14 d_Br_checkRange_16 d_Br_checkRange_19
def wp_Br_checkRange (e0 mi : Nat) (x0 : Int32) (x1 : Int32) (x2 : Int32) (w : Wd) (nc ns : Nat) (Q : Wd → Prop) (X : String → Wd → Prop) : Prop :=
  (x0 < x1 → (wb_Br_checkRange_10 e0 mi Q X x0 x1 x2 w nc ns)) ∧ (¬ x0 < x1 → ((x0 ≤ x2 → (Q w)) ∧ (¬ x0 ≤ x2 → (wb_Br_checkRange_10 e0 mi Q X x0 x1 x2 w nc ns))))
set_option maxHeartbeats 4000000 in
set_option maxRecDepth 100000 in
theorem k_Br_checkRange_0 {p : Program} {l : Launch} {e : Env} {s : State} {m : MethodId} {args : Array Value} {below : List Frame} {meth : Method} {c : Code} {D : va_G} {AC : Nat → ClassId} {e0 mi : Nat} {A : Nat → Prop} {mc ms : Nat} {Q : Wd → Prop} {X : String → Wd → Prop} (C : Cx p l s m args meth c D AC e0 mi A n_Br_checkRange b_Br_checkRange 3 none) (x0 : Int32) (x1 : Int32) (x2 : Int32) (w : Wd) (nc ns : Nat) (hq : wp_Br_checkRange e0 mi x0 x1 x2 w nc ns Q X) : ∀ (H : Heap) (locs : List Loc) (cells slots : Nat) (ls : Array Slot), HW D cls8 FTc AC A s.heap H locs w → lv_has ls 3 [(0, .int x0), (1, .int x1), (2, .int x2)] → cells + nc ≤ mc → slots + ns ≤ ms → W p l e { frames := 7, cells := mc, slots := ms, locals := 103 } s m args below meth c H locs cells slots (vx_MQ below (QQ D AC A (fun v w9 => v = none ∧ Q w9)) (XX D AC A X) args s mc ms A) (F0 m 0 ls []) := by
  obtain ⟨hl0, hx, hb, hr, ht, hown, hlocks, hnm, hml, hex, hK, hA, hZ, hV⟩ := id C
  intro H locs cells slots ls hW hl hc hs
  unfold wp_Br_checkRange at hq
  refine lv_iload_n hx hb d_Br_checkRange_0 rfl (lv_at hl 0 rfl) ?_
  refine lv_iload_n hx hb d_Br_checkRange_1 rfl (lv_at hl 1 rfl) ?_
  refine lv_icmp_lt (tgt := 10) hx hb d_Br_checkRange_2 (by decide) (fun c1 => ?_) (fun c1 => ?_)
  · have hq := hq.1 c1
    exact k_Br_checkRange_10 C  _ _ _ _ _ _ hq _ _ _ _ _ hW (lv_sub hl [0, 1, 2] rfl) hc hs
  · have hq := hq.2 c1
    refine lv_iload_n hx hb d_Br_checkRange_5 rfl (lv_at hl 0 rfl) ?_
    refine lv_iload_n hx hb d_Br_checkRange_6 rfl (lv_at hl 2 rfl) ?_
    refine lv_icmp_le (tgt := 20) hx hb d_Br_checkRange_7 (by decide) (fun c2 => ?_) (fun c2 => ?_)
    · have hq := hq.1 c2
      exact bw_vret C hW ⟨rfl, hq⟩ d_Br_checkRange_20 (Nat.le_trans (Nat.le_add_right _ _) hc) (Nat.le_trans (Nat.le_add_right _ _) hs)
    · have hq := hq.2 c2
      exact k_Br_checkRange_10 C  _ _ _ _ _ _ hq _ _ _ _ _ hW (lv_sub hl [0, 1, 2] rfl) hc hs
theorem ci_Br_checkRange : CI n_Br_checkRange b_Br_checkRange 3 none 3 := ⟨m_125, m_1, by decide, by decide, by decide +kernel⟩
theorem c_Br_checkRange {l : Launch} {D : va_G} {AC : Nat → ClassId} {e0 mi : Nat} {Q : Wd → Prop} {X : String → Wd → Prop} (hl0 : l.stackTraces = false) (x0 : Int32) (x1 : Int32) (x2 : Int32) (w : Wd) (nc ns : Nat) (hq : wp_Br_checkRange e0 mi x0 x1 x2 w nc ns Q X) : Ct l D AC e0 mi n_Br_checkRange (wy n_Br_checkRange b_Br_checkRange 3 none) 7 103 [.int x0, .int x1, .int x2] w nc ns (fun v w9 => v = none ∧ Q w9) X :=
  Ct.of hl0 (by decide) (by simp [lg_sl, bw_cat, cat_i, cat_j]) (fun p e s m args below meth c A ls C hW hl => k_Br_checkRange_0 C x0 x1 x2 w nc ns hq s.heap [] 0 0 ls hW (by simpa [lv_args, bw_cat, cat_i, cat_j] using hl) (Nat.le_of_eq (Nat.zero_add _)) (Nat.le_of_eq (Nat.zero_add _)))
def wp_Br_checkOnBelt (e0 mi : Nat) (x0 : Option Nat) (w : Wd) (nc ns : Nat) (Q : Wd → Prop) (X : String → Wd → Prop) : Prop :=
  ∃ a1 : Nat, x0 = some a1 ∧ (bw_is w a1 2 ∧ (((wI w a1 6) = 0 → (Q w)) ∧ (¬ (wI w a1 6) = 0 → (1 ≤ nc ∧ 6 ≤ ns ∧ X "java/lang/IllegalStateException" w))))
set_option maxHeartbeats 4000000 in
set_option maxRecDepth 100000 in
theorem k_Br_checkOnBelt_0 {p : Program} {l : Launch} {e : Env} {s : State} {m : MethodId} {args : Array Value} {below : List Frame} {meth : Method} {c : Code} {D : va_G} {AC : Nat → ClassId} {e0 mi : Nat} {A : Nat → Prop} {mc ms : Nat} {Q : Wd → Prop} {X : String → Wd → Prop} (C : Cx p l s m args meth c D AC e0 mi A n_Br_checkOnBelt b_Br_checkOnBelt 1 none) (x0 : Option Nat) (w : Wd) (nc ns : Nat) (hq : wp_Br_checkOnBelt e0 mi x0 w nc ns Q X) : ∀ (H : Heap) (locs : List Loc) (cells slots : Nat) (ls : Array Slot), HW D cls8 FTc AC A s.heap H locs w → lv_has ls 1 [(0, va_rf x0)] → cells + nc ≤ mc → slots + ns ≤ ms → W p l e { frames := 7, cells := mc, slots := ms, locals := 103 } s m args below meth c H locs cells slots (vx_MQ below (QQ D AC A (fun v w9 => v = none ∧ Q w9)) (XX D AC A X) args s mc ms A) (F0 m 0 ls []) := by
  obtain ⟨hl0, hx, hb, hr, ht, hown, hlocks, hnm, hml, hex, hK, hA, hZ, hV⟩ := id C
  intro H locs cells slots ls hW hl hc hs
  unfold wp_Br_checkOnBelt at hq
  refine bw_aload_n hx hb d_Br_checkOnBelt_0 rfl (lv_at hl 0 rfl) ?_
  obtain ⟨a1, ea1, hq⟩ := hq
  obtain ⟨t2, hq⟩ := hq
  refine bw_getI hx hb ht in_It hown hK hW ea1 t2 (by decide) rfl 6 (by decide) rfl (ht _ m_457) (fun _ h => h) d_Br_checkOnBelt_1 ?_
  refine lv_if_eq (tgt := 17) hx hb d_Br_checkOnBelt_4 (by decide) (fun c3 => ?_) (fun c3 => ?_)
  · have hq := hq.1 c3
    exact bw_vret C hW ⟨rfl, hq⟩ d_Br_checkOnBelt_17 (Nat.le_trans (Nat.le_add_right _ _) hc) (Nat.le_trans (Nat.le_add_right _ _) hs)
  · have hq := hq.2 c3
    obtain ⟨h4, h5, hq⟩ := hq
    exact bw_throw C hW rfl xa_Is (ht _ m_519) (is := 227) (text := "the item is on no belt") (by decide +kernel) hq hl.1 h4 h5 hc hs rfl rfl (Nat.le_of_ble_eq_true rfl) (by exact Nat.le_of_ble_eq_true rfl) d_Br_checkOnBelt_7 d_Br_checkOnBelt_10 d_Br_checkOnBelt_11 d_Br_checkOnBelt_13 d_Br_checkOnBelt_16
theorem ci_Br_checkOnBelt : CI n_Br_checkOnBelt b_Br_checkOnBelt 1 none 1 := ⟨m_518, m_1, by decide, by decide, by decide +kernel⟩
theorem c_Br_checkOnBelt {l : Launch} {D : va_G} {AC : Nat → ClassId} {e0 mi : Nat} {Q : Wd → Prop} {X : String → Wd → Prop} (hl0 : l.stackTraces = false) (x0 : Option Nat) (w : Wd) (nc ns : Nat) (hq : wp_Br_checkOnBelt e0 mi x0 w nc ns Q X) : Ct l D AC e0 mi n_Br_checkOnBelt (wy n_Br_checkOnBelt b_Br_checkOnBelt 1 none) 7 103 [va_rf x0] w nc ns (fun v w9 => v = none ∧ Q w9) X :=
  Ct.of hl0 (by decide) (by simp [lg_sl, bw_cat, cat_i, cat_j]) (fun p e s m args below meth c A ls C hW hl => k_Br_checkOnBelt_0 C x0 w nc ns hq s.heap [] 0 0 ls hW (by simpa [lv_args, bw_cat, cat_i, cat_j] using hl) (Nat.le_of_eq (Nat.zero_add _)) (Nat.le_of_eq (Nat.zero_add _)))
def wb_Br_findBelt_15 (e0 mi : Nat) (Q : Option Nat → Wd → Prop) (X : String → Wd → Prop) (x0 : Nat) (x1 : Int32) (w : Wd) (nc ns : Nat) : Prop :=
  1 ≤ nc ∧ 6 ≤ ns ∧ X "java/util/NoSuchElementException" w
set_option maxHeartbeats 4000000 in
set_option maxRecDepth 100000 in
theorem k_Br_findBelt_15 {p : Program} {l : Launch} {e : Env} {s : State} {m : MethodId} {args : Array Value} {below : List Frame} {meth : Method} {c : Code} {D : va_G} {AC : Nat → ClassId} {e0 mi : Nat} {A : Nat → Prop} {mc ms : Nat} {Q : Option Nat → Wd → Prop} {X : String → Wd → Prop} (C : Cx p l s m args meth c D AC e0 mi A n_Br_findBelt b_Br_findBelt 2 (some (.object "BeltRows$Belt"))) (x0 : Nat) (x1 : Int32) (w : Wd) (nc ns : Nat) (hq : wb_Br_findBelt_15 e0 mi Q X x0 x1 w nc ns) : ∀ (H : Heap) (locs : List Loc) (cells slots : Nat) (ls : Array Slot), HW D cls8 FTc AC A s.heap H locs w → lv_has ls 2 [(0, va_rf (some x0)), (1, .int x1)] → cells + nc ≤ mc → slots + ns ≤ ms → W p l e { frames := 7, cells := mc, slots := ms, locals := 103 } s m args below meth c H locs cells slots (vx_MQ below (QQ D AC A (fun v w9 => ∃ r9 : Option Nat, v = some (va_rf r9) ∧ Q r9 w9)) (XX D AC A X) args s mc ms A) (F0 m 15 ls []) := by
  obtain ⟨hl0, hx, hb, hr, ht, hown, hlocks, hnm, hml, hex, hK, hA, hZ, hV⟩ := id C
  intro H locs cells slots ls hW hl hc hs
  unfold wb_Br_findBelt_15 at hq
  obtain ⟨h1, h2, hq⟩ := hq
  exact bw_throwN C hW rfl (ht _ m_346) (is := 229) (text := "no such belt") (by decide +kernel) hq hl.1 h1 h2 hc hs rfl rfl (Nat.le_of_ble_eq_true rfl) (by exact Nat.le_of_ble_eq_true rfl) d_Br_findBelt_15 d_Br_findBelt_18 d_Br_findBelt_19 d_Br_findBelt_21 d_Br_findBelt_24
def wp_Br_findBelt (e0 mi : Nat) (x0 : Nat) (x1 : Int32) (w : Wd) (nc ns : Nat) (Q : Option Nat → Wd → Prop) (X : String → Wd → Prop) : Prop :=
  (x1 < 0 → (wb_Br_findBelt_15 e0 mi Q X x0 x1 w nc ns)) ∧ (¬ x1 < 0 → (bw_is w x0 5 ∧ (∃ a3 : Nat, (wR w x0 0) = some a3 ∧ (bw_is w a3 7 ∧ (wp_Al_size e0 mi a3 w (fun i11 w6 => (x1 < i11 → (bw_is w6 x0 5 ∧ (∃ a14 : Nat, (wR w6 x0 0) = some a14 ∧ (bw_is w6 a14 7 ∧ (wp_Al_get e0 mi a14 x1 w6 (fun r22 w17 => (∀ a24, r22 = some a24 → bw_is w17 a24 0) ∧ (Q r22 w17))))))) ∧ (¬ x1 < i11 → (wb_Br_findBelt_15 e0 mi Q X x0 x1 w6 nc ns))))))))
set_option maxHeartbeats 4000000 in
set_option maxRecDepth 100000 in
theorem k_Br_findBelt_0 {p : Program} {l : Launch} {e : Env} {s : State} {m : MethodId} {args : Array Value} {below : List Frame} {meth : Method} {c : Code} {D : va_G} {AC : Nat → ClassId} {e0 mi : Nat} {A : Nat → Prop} {mc ms : Nat} {Q : Option Nat → Wd → Prop} {X : String → Wd → Prop} (C : Cx p l s m args meth c D AC e0 mi A n_Br_findBelt b_Br_findBelt 2 (some (.object "BeltRows$Belt"))) (x0 : Nat) (x1 : Int32) (w : Wd) (nc ns : Nat) (hq : wp_Br_findBelt e0 mi x0 x1 w nc ns Q X) : ∀ (H : Heap) (locs : List Loc) (cells slots : Nat) (ls : Array Slot), HW D cls8 FTc AC A s.heap H locs w → lv_has ls 2 [(0, va_rf (some x0)), (1, .int x1)] → cells + nc ≤ mc → slots + ns ≤ ms → W p l e { frames := 7, cells := mc, slots := ms, locals := 103 } s m args below meth c H locs cells slots (vx_MQ below (QQ D AC A (fun v w9 => ∃ r9 : Option Nat, v = some (va_rf r9) ∧ Q r9 w9)) (XX D AC A X) args s mc ms A) (F0 m 0 ls []) := by
  obtain ⟨hl0, hx, hb, hr, ht, hown, hlocks, hnm, hml, hex, hK, hA, hZ, hV⟩ := id C
  intro H locs cells slots ls hW hl hc hs
  unfold wp_Br_findBelt at hq
  refine lv_iload_n hx hb d_Br_findBelt_0 rfl (lv_at hl 1 rfl) ?_
  refine lv_if_lt (tgt := 15) hx hb d_Br_findBelt_1 (by decide) (fun c1 => ?_) (fun c1 => ?_)
  · have hq := hq.1 c1
    exact k_Br_findBelt_15 C  _ _ _ _ _ hq _ _ _ _ _ hW (lv_sub hl [0, 1] rfl) hc hs
  · have hq := hq.2 c1
    refine lv_iload_n hx hb d_Br_findBelt_4 rfl (lv_at hl 1 rfl) ?_
    refine bw_aload_n hx hb d_Br_findBelt_5 rfl (lv_at hl 0 rfl) ?_
    obtain ⟨t2, hq⟩ := hq
    refine bw_getR hx hb ht in_Br hown hK hW rfl t2 (by decide) rfl 0 (by decide) rfl (ht _ m_59) (fun _ h => h) d_Br_findBelt_6 ?_
    obtain ⟨a3, ea3, hq⟩ := hq
    obtain ⟨t4, hq⟩ := hq
    refine bw_callV (As := []) (rest := [.int x1]) C hW ci_Al_size m_91 m_92 m_93 d_Br_findBelt_9 ea3 t4 (by decide) rfl rfl rfl hl.1 (by simp [bw_cat, cat_i, cat_j]) ⟨Nat.le_of_ble_eq_true rfl, Nat.le_of_ble_eq_true rfl⟩ ⟨Nat.le_trans (Nat.add_le_add_left (Nat.zero_le _) _) hc, Nat.le_trans (Nat.add_le_add_left (Nat.zero_le _) _) hs⟩ (c_Al_size hl0 _ _ hq) (fun _ _ _ _ _ _ h => h.elim) (fun v5 w6 H locs hv hW => ?_)
    obtain ⟨i11, rfl, hq⟩ := hv
    have hc := bw_bud0 hc
    have hs := bw_bud0 hs
    refine W.eq (g2 := F0 m 12 ls [.int i11, .int x1]) rfl ?_
    refine lv_icmp_lt (tgt := 25) hx hb d_Br_findBelt_12 (by decide) (fun c12 => ?_) (fun c12 => ?_)
    · have hq := hq.1 c12
      refine bw_aload_n hx hb d_Br_findBelt_25 rfl (lv_at hl 0 rfl) ?_
      obtain ⟨t13, hq⟩ := hq
      refine bw_getR hx hb ht in_Br hown hK hW rfl t13 (by decide) rfl 0 (by decide) rfl (ht _ m_59) (fun _ h => h) d_Br_findBelt_26 ?_
      refine lv_iload_n hx hb d_Br_findBelt_29 rfl (lv_at hl 1 rfl) ?_
      obtain ⟨a14, ea14, hq⟩ := hq
      obtain ⟨t15, hq⟩ := hq
      refine bw_callV (As := [.int x1]) (rest := []) C hW ci_Al_get m_99 m_100 m_101 d_Br_findBelt_30 ea14 t15 (by decide) rfl rfl rfl hl.1 (by decide) ⟨Nat.le_of_ble_eq_true rfl, Nat.le_of_ble_eq_true rfl⟩ ⟨Nat.le_trans (Nat.add_le_add_left (Nat.zero_le _) _) hc, Nat.le_trans (Nat.add_le_add_left (Nat.zero_le _) _) hs⟩ (c_Al_get hl0 _ _ _ hq) (fun _ _ _ _ _ _ h => h.elim) (fun v16 w17 H locs hv hW => ?_)
      obtain ⟨r22, rfl, hq⟩ := hv
      have hc := bw_bud0 hc
      have hs := bw_bud0 hs
      refine W.eq (g2 := F0 m 33 ls [va_rf r22]) rfl ?_
      obtain ⟨h23, hq⟩ := hq
      refine bw_cast C hW m_113 (cn := 0) rfl (by decide) (by decide +kernel) h23 d_Br_findBelt_33 ?_
      exact bw_aret C (Or.inl ⟨_, rfl⟩) hW ⟨_, rfl, hq⟩ d_Br_findBelt_36 (Nat.le_trans (Nat.le_add_right _ _) hc) (Nat.le_trans (Nat.le_add_right _ _) hs)
    · have hq := hq.2 c12
      exact k_Br_findBelt_15 C  _ _ _ _ _ hq _ _ _ _ _ hW (lv_sub hl [0, 1] rfl) hc hs
theorem ci_Br_findBelt : CI n_Br_findBelt b_Br_findBelt 2 (some (.object "BeltRows$Belt")) 1 := ⟨m_345, m_1, by decide, by decide, by decide +kernel⟩
theorem sel_Br_findBelt : Cond.selects "BeltRows" n_Br_findBelt n_Br_findBelt ∈ TBL := List.mem_filter.mpr ⟨List.mem_append_left _ (List.mem_map.mpr ⟨(n_Br_findBelt, 9), by decide +kernel, rfl⟩), rfl⟩
theorem c_Br_findBelt {l : Launch} {D : va_G} {AC : Nat → ClassId} {e0 mi : Nat} {Q : Option Nat → Wd → Prop} {X : String → Wd → Prop} (hl0 : l.stackTraces = false) (x0 : Nat) (x1 : Int32) (w : Wd) (nc ns : Nat) (hq : wp_Br_findBelt e0 mi x0 x1 w nc ns Q X) : Ct l D AC e0 mi n_Br_findBelt (wy n_Br_findBelt b_Br_findBelt 2 (some (.object "BeltRows$Belt"))) 7 103 [va_rf (some x0), .int x1] w nc ns (fun v w9 => ∃ r9 : Option Nat, v = some (va_rf r9) ∧ Q r9 w9) X :=
  Ct.of hl0 (by decide) (by simp [lg_sl, bw_cat, cat_i, cat_j]) (fun p e s m args below meth c A ls C hW hl => k_Br_findBelt_0 C x0 x1 w nc ns hq s.heap [] 0 0 ls hW (by simpa [lv_args, bw_cat, cat_i, cat_j] using hl) (Nat.le_of_eq (Nat.zero_add _)) (Nat.le_of_eq (Nat.zero_add _)))
def wb_Br_findItem_16 (e0 mi : Nat) (Q : Option Nat → Wd → Prop) (X : String → Wd → Prop) (x0 : Nat) (x1 : Int32) (w : Wd) (nc ns : Nat) : Prop :=
  1 ≤ nc ∧ 6 ≤ ns ∧ X "java/util/NoSuchElementException" w
set_option maxHeartbeats 4000000 in
set_option maxRecDepth 100000 in
theorem k_Br_findItem_16 {p : Program} {l : Launch} {e : Env} {s : State} {m : MethodId} {args : Array Value} {below : List Frame} {meth : Method} {c : Code} {D : va_G} {AC : Nat → ClassId} {e0 mi : Nat} {A : Nat → Prop} {mc ms : Nat} {Q : Option Nat → Wd → Prop} {X : String → Wd → Prop} (C : Cx p l s m args meth c D AC e0 mi A n_Br_findItem b_Br_findItem 2 (some (.object "BeltRows$Item"))) (x0 : Nat) (x1 : Int32) (w : Wd) (nc ns : Nat) (hq : wb_Br_findItem_16 e0 mi Q X x0 x1 w nc ns) : ∀ (H : Heap) (locs : List Loc) (cells slots : Nat) (ls : Array Slot), HW D cls8 FTc AC A s.heap H locs w → lv_has ls 2 [(0, va_rf (some x0)), (1, .int x1)] → cells + nc ≤ mc → slots + ns ≤ ms → W p l e { frames := 7, cells := mc, slots := ms, locals := 103 } s m args below meth c H locs cells slots (vx_MQ below (QQ D AC A (fun v w9 => ∃ r9 : Option Nat, v = some (va_rf r9) ∧ Q r9 w9)) (XX D AC A X) args s mc ms A) (F0 m 16 ls []) := by
  obtain ⟨hl0, hx, hb, hr, ht, hown, hlocks, hnm, hml, hex, hK, hA, hZ, hV⟩ := id C
  intro H locs cells slots ls hW hl hc hs
  unfold wb_Br_findItem_16 at hq
  obtain ⟨h1, h2, hq⟩ := hq
  exact bw_throwN C hW rfl (ht _ m_346) (is := 231) (text := "no such item") (by decide +kernel) hq hl.1 h1 h2 hc hs rfl rfl (Nat.le_of_ble_eq_true rfl) (by exact Nat.le_of_ble_eq_true rfl) d_Br_findItem_16 d_Br_findItem_19 d_Br_findItem_20 d_Br_findItem_22 d_Br_findItem_25
def wp_Br_findItem (e0 mi : Nat) (x0 : Nat) (x1 : Int32) (w : Wd) (nc ns : Nat) (Q : Option Nat → Wd → Prop) (X : String → Wd → Prop) : Prop :=
  (x1 < (1 : Int32) → (wb_Br_findItem_16 e0 mi Q X x0 x1 w nc ns)) ∧ (¬ x1 < (1 : Int32) → (bw_is w x0 5 ∧ (∃ a3 : Nat, (wR w x0 1) = some a3 ∧ (bw_is w a3 7 ∧ (wp_Al_size e0 mi a3 w (fun i11 w6 => (x1 ≤ i11 → (bw_is w6 x0 5 ∧ (∃ a14 : Nat, (wR w6 x0 1) = some a14 ∧ (bw_is w6 a14 7 ∧ (wp_Al_get e0 mi a14 (x1 - (1 : Int32)) w6 (fun r22 w17 => (∀ a24, r22 = some a24 → bw_is w17 a24 2) ∧ (Q r22 w17))))))) ∧ (¬ x1 ≤ i11 → (wb_Br_findItem_16 e0 mi Q X x0 x1 w6 nc ns))))))))
set_option maxHeartbeats 4000000 in
set_option maxRecDepth 100000 in
theorem k_Br_findItem_0 {p : Program} {l : Launch} {e : Env} {s : State} {m : MethodId} {args : Array Value} {below : List Frame} {meth : Method} {c : Code} {D : va_G} {AC : Nat → ClassId} {e0 mi : Nat} {A : Nat → Prop} {mc ms : Nat} {Q : Option Nat → Wd → Prop} {X : String → Wd → Prop} (C : Cx p l s m args meth c D AC e0 mi A n_Br_findItem b_Br_findItem 2 (some (.object "BeltRows$Item"))) (x0 : Nat) (x1 : Int32) (w : Wd) (nc ns : Nat) (hq : wp_Br_findItem e0 mi x0 x1 w nc ns Q X) : ∀ (H : Heap) (locs : List Loc) (cells slots : Nat) (ls : Array Slot), HW D cls8 FTc AC A s.heap H locs w → lv_has ls 2 [(0, va_rf (some x0)), (1, .int x1)] → cells + nc ≤ mc → slots + ns ≤ ms → W p l e { frames := 7, cells := mc, slots := ms, locals := 103 } s m args below meth c H locs cells slots (vx_MQ below (QQ D AC A (fun v w9 => ∃ r9 : Option Nat, v = some (va_rf r9) ∧ Q r9 w9)) (XX D AC A X) args s mc ms A) (F0 m 0 ls []) := by
  obtain ⟨hl0, hx, hb, hr, ht, hown, hlocks, hnm, hml, hex, hK, hA, hZ, hV⟩ := id C
  intro H locs cells slots ls hW hl hc hs
  unfold wp_Br_findItem at hq
  refine lv_iload_n hx hb d_Br_findItem_0 rfl (lv_at hl 1 rfl) ?_
  refine lv_iconst (v := 1) hx hb d_Br_findItem_1 (by decide) ?_
  refine lv_icmp_lt (tgt := 16) hx hb d_Br_findItem_2 (by decide) (fun c1 => ?_) (fun c1 => ?_)
  · have hq := hq.1 c1
    exact k_Br_findItem_16 C  _ _ _ _ _ hq _ _ _ _ _ hW (lv_sub hl [0, 1] rfl) hc hs
  · have hq := hq.2 c1
    refine lv_iload_n hx hb d_Br_findItem_5 rfl (lv_at hl 1 rfl) ?_
    refine bw_aload_n hx hb d_Br_findItem_6 rfl (lv_at hl 0 rfl) ?_
    obtain ⟨t2, hq⟩ := hq
    refine bw_getR hx hb ht in_Br hown hK hW rfl t2 (by decide) rfl 1 (by decide) rfl (ht _ m_60) (fun _ h => h) d_Br_findItem_7 ?_
    obtain ⟨a3, ea3, hq⟩ := hq
    obtain ⟨t4, hq⟩ := hq
    refine bw_callV (As := []) (rest := [.int x1]) C hW ci_Al_size m_91 m_92 m_93 d_Br_findItem_10 ea3 t4 (by decide) rfl rfl rfl hl.1 (by simp [bw_cat, cat_i, cat_j]) ⟨Nat.le_of_ble_eq_true rfl, Nat.le_of_ble_eq_true rfl⟩ ⟨Nat.le_trans (Nat.add_le_add_left (Nat.zero_le _) _) hc, Nat.le_trans (Nat.add_le_add_left (Nat.zero_le _) _) hs⟩ (c_Al_size hl0 _ _ hq) (fun _ _ _ _ _ _ h => h.elim) (fun v5 w6 H locs hv hW => ?_)
    obtain ⟨i11, rfl, hq⟩ := hv
    have hc := bw_bud0 hc
    have hs := bw_bud0 hs
    refine W.eq (g2 := F0 m 13 ls [.int i11, .int x1]) rfl ?_
    refine lv_icmp_le (tgt := 26) hx hb d_Br_findItem_13 (by decide) (fun c12 => ?_) (fun c12 => ?_)
    · have hq := hq.1 c12
      refine bw_aload_n hx hb d_Br_findItem_26 rfl (lv_at hl 0 rfl) ?_
      obtain ⟨t13, hq⟩ := hq
      refine bw_getR hx hb ht in_Br hown hK hW rfl t13 (by decide) rfl 1 (by decide) rfl (ht _ m_60) (fun _ h => h) d_Br_findItem_27 ?_
      refine lv_iload_n hx hb d_Br_findItem_30 rfl (lv_at hl 1 rfl) ?_
      refine lv_iconst (v := 1) hx hb d_Br_findItem_31 (by decide) ?_
      refine lv_isub hx hb d_Br_findItem_32 ?_
      obtain ⟨a14, ea14, hq⟩ := hq
      obtain ⟨t15, hq⟩ := hq
      refine bw_callV (As := [.int (x1 - (1 : Int32))]) (rest := []) C hW ci_Al_get m_99 m_100 m_101 d_Br_findItem_33 ea14 t15 (by decide) rfl rfl rfl hl.1 (by decide) ⟨Nat.le_of_ble_eq_true rfl, Nat.le_of_ble_eq_true rfl⟩ ⟨Nat.le_trans (Nat.add_le_add_left (Nat.zero_le _) _) hc, Nat.le_trans (Nat.add_le_add_left (Nat.zero_le _) _) hs⟩ (c_Al_get hl0 _ _ _ hq) (fun _ _ _ _ _ _ h => h.elim) (fun v16 w17 H locs hv hW => ?_)
      obtain ⟨r22, rfl, hq⟩ := hv
      have hc := bw_bud0 hc
      have hs := bw_bud0 hs
      refine W.eq (g2 := F0 m 36 ls [va_rf r22]) rfl ?_
      obtain ⟨h23, hq⟩ := hq
      refine bw_cast C hW m_437 (cn := 2) rfl (by decide) (by decide +kernel) h23 d_Br_findItem_36 ?_
      exact bw_aret C (Or.inl ⟨_, rfl⟩) hW ⟨_, rfl, hq⟩ d_Br_findItem_39 (Nat.le_trans (Nat.le_add_right _ _) hc) (Nat.le_trans (Nat.le_add_right _ _) hs)
    · have hq := hq.2 c12
      exact k_Br_findItem_16 C  _ _ _ _ _ hq _ _ _ _ _ hW (lv_sub hl [0, 1] rfl) hc hs
theorem ci_Br_findItem : CI n_Br_findItem b_Br_findItem 2 (some (.object "BeltRows$Item")) 1 := ⟨m_514, m_1, by decide, by decide, by decide +kernel⟩
theorem sel_Br_findItem : Cond.selects "BeltRows" n_Br_findItem n_Br_findItem ∈ TBL := List.mem_filter.mpr ⟨List.mem_append_left _ (List.mem_map.mpr ⟨(n_Br_findItem, 9), by decide +kernel, rfl⟩), rfl⟩
theorem c_Br_findItem {l : Launch} {D : va_G} {AC : Nat → ClassId} {e0 mi : Nat} {Q : Option Nat → Wd → Prop} {X : String → Wd → Prop} (hl0 : l.stackTraces = false) (x0 : Nat) (x1 : Int32) (w : Wd) (nc ns : Nat) (hq : wp_Br_findItem e0 mi x0 x1 w nc ns Q X) : Ct l D AC e0 mi n_Br_findItem (wy n_Br_findItem b_Br_findItem 2 (some (.object "BeltRows$Item"))) 7 103 [va_rf (some x0), .int x1] w nc ns (fun v w9 => ∃ r9 : Option Nat, v = some (va_rf r9) ∧ Q r9 w9) X :=
  Ct.of hl0 (by decide) (by simp [lg_sl, bw_cat, cat_i, cat_j]) (fun p e s m args below meth c A ls C hW hl => k_Br_findItem_0 C x0 x1 w nc ns hq s.heap [] 0 0 ls hW (by simpa [lv_args, bw_cat, cat_i, cat_j] using hl) (Nat.le_of_eq (Nat.zero_add _)) (Nat.le_of_eq (Nat.zero_add _)))
def wp_Br_belt (e0 mi : Nat) (x0 : Nat) (x1 : Int32) (x2 : Int32) (w : Wd) (nc ns : Nat) (Q : Int32 → Wd → Prop) (X : String → Wd → Prop) : Prop :=
  ∃ k3 k4 : Nat, k3 ≤ nc ∧ k4 ≤ ns ∧ wp_Br_checkRange e0 mi x1 (1 : Int32) (10000 : Int32) w k3 k4 (fun w2 => ∃ k10 k11 : Nat, k10 ≤ (nc - k3) ∧ k11 ≤ (ns - k4) ∧ wp_Br_checkRange e0 mi x2 (0 : Int32) (1000 : Int32) w2 k10 k11 (fun w9 => bw_is w9 x0 5 ∧ (∃ a16 : Nat, (wR w9 x0 0) = some a16 ∧ (bw_is w9 a16 7 ∧ (wp_Al_size e0 mi a16 w9 (fun i24 w19 => (i24 < (8 : Int32) → (bw_is w19 x0 5 ∧ (1 ≤ ((nc - k3) - k10) ∧ 9 ≤ ((ns - k4) - k11) ∧ ∀ q27 : Nat, q27 ∉ wL w19 → ∀ w31 : Wd, w31 = bw_new w19 q27 0 0 → (∃ k35 k36 : Nat, k35 ≤ (((nc - k3) - k10) - 1) ∧ k36 ≤ (((ns - k4) - k11) - 9) ∧ wp_Bt_init e0 mi q27 i24 x1 x2 w31 k35 k36 (fun w34 => ∃ a40 : Nat, (wR w19 x0 0) = some a40 ∧ (bw_is w34 a40 7 ∧ (∃ k44 k45 : Nat, k44 ≤ ((((nc - k3) - k10) - 1) - k35) ∧ k45 ≤ ((((ns - k4) - k11) - 9) - k36) ∧ wp_Al_add e0 mi a40 (some q27) w34 k44 k45 (fun i48 w43 => Q i24 w43)))))))) ∧ (¬ i24 < (8 : Int32) → (1 ≤ ((nc - k3) - k10) ∧ 6 ≤ ((ns - k4) - k11) ∧ X "java/lang/UnsupportedOperationException" w19))))))) X) X
set_option maxHeartbeats 4000000 in
set_option maxRecDepth 100000 in
theorem k_Br_belt_0 {p : Program} {l : Launch} {e : Env} {s : State} {m : MethodId} {args : Array Value} {below : List Frame} {meth : Method} {c : Code} {D : va_G} {AC : Nat → ClassId} {e0 mi : Nat} {A : Nat → Prop} {mc ms : Nat} {Q : Int32 → Wd → Prop} {X : String → Wd → Prop} (C : Cx p l s m args meth c D AC e0 mi A n_Br_belt b_Br_belt 4 (some .int)) (x0 : Nat) (x1 : Int32) (x2 : Int32) (w : Wd) (nc ns : Nat) (hq : wp_Br_belt e0 mi x0 x1 x2 w nc ns Q X) : ∀ (H : Heap) (locs : List Loc) (cells slots : Nat) (ls : Array Slot), HW D cls8 FTc AC A s.heap H locs w → lv_has ls 4 [(0, va_rf (some x0)), (1, .int x1), (2, .int x2)] → cells + nc ≤ mc → slots + ns ≤ ms → W p l e { frames := 8, cells := mc, slots := ms, locals := 171 } s m args below meth c H locs cells slots (vx_MQ below (QQ D AC A (fun v w9 => ∃ r9 : Int32, v = some (.int r9) ∧ Q r9 w9)) (XX D AC A X) args s mc ms A) (F0 m 0 ls []) := by
  obtain ⟨hl0, hx, hb, hr, ht, hown, hlocks, hnm, hml, hex, hK, hA, hZ, hV⟩ := id C
  intro H locs cells slots ls hW hl hc hs
  unfold wp_Br_belt at hq
  refine lv_iload_n hx hb d_Br_belt_0 rfl (lv_at hl 1 rfl) ?_
  refine lv_iconst (v := 1) hx hb d_Br_belt_1 (by decide) ?_
  refine lv_sipush (v := 10000) hx hb d_Br_belt_2 (by decide) ?_
  obtain ⟨k3, k4, h5, h6, hq⟩ := hq
  refine bw_callS (As := [.int x1, .int (1 : Int32), .int (10000 : Int32)]) (rest := []) C hW ci_Br_checkRange m_123 m_124 d_Br_belt_5 rfl rfl hl.1 (by decide) ⟨Nat.le_of_ble_eq_true rfl, Nat.le_of_ble_eq_true rfl⟩ ⟨Nat.le_trans (Nat.add_le_add_left h5 _) hc, Nat.le_trans (Nat.add_le_add_left h6 _) hs⟩ (c_Br_checkRange hl0 _ _ _ _ _ _ hq) (fun _ _ _ _ _ _ h hW h1 h2 h3 => bw_up C (fun _ _ z => z) h hW h1 h2 h3 (Nat.le_trans (Nat.add_le_add_left h5 _) hc) (Nat.le_trans (Nat.add_le_add_left h6 _) hs)) (fun v1 w2 H locs hv hW => ?_)
  obtain ⟨rfl, hq⟩ := hv
  have hc := bw_bud hc h5
  have hs := bw_bud hs h6
  refine W.eq (g2 := F0 m 8 ls []) rfl ?_
  refine lv_iload_n hx hb d_Br_belt_8 rfl (lv_at hl 2 rfl) ?_
  refine lv_iconst (v := 0) hx hb d_Br_belt_9 (by decide) ?_
  refine lv_sipush (v := 1000) hx hb d_Br_belt_10 (by decide) ?_
  obtain ⟨k10, k11, h12, h13, hq⟩ := hq
  refine bw_callS (As := [.int x2, .int (0 : Int32), .int (1000 : Int32)]) (rest := []) C hW ci_Br_checkRange m_123 m_124 d_Br_belt_13 rfl rfl hl.1 (by decide) ⟨Nat.le_of_ble_eq_true rfl, Nat.le_of_ble_eq_true rfl⟩ ⟨Nat.le_trans (Nat.add_le_add_left h12 _) hc, Nat.le_trans (Nat.add_le_add_left h13 _) hs⟩ (c_Br_checkRange hl0 _ _ _ _ _ _ hq) (fun _ _ _ _ _ _ h hW h1 h2 h3 => bw_up C (fun _ _ z => z) h hW h1 h2 h3 (Nat.le_trans (Nat.add_le_add_left h12 _) hc) (Nat.le_trans (Nat.add_le_add_left h13 _) hs)) (fun v8 w9 H locs hv hW => ?_)
  obtain ⟨rfl, hq⟩ := hv
  have hc := bw_bud hc h12
  have hs := bw_bud hs h13
  refine W.eq (g2 := F0 m 16 ls []) rfl ?_
  refine bw_aload_n hx hb d_Br_belt_16 rfl (lv_at hl 0 rfl) ?_
  obtain ⟨t15, hq⟩ := hq
  refine bw_getR hx hb ht in_Br hown hK hW rfl t15 (by decide) rfl 0 (by decide) rfl (ht _ m_59) (fun _ h => h) d_Br_belt_17 ?_
  obtain ⟨a16, ea16, hq⟩ := hq
  obtain ⟨t17, hq⟩ := hq
  refine bw_callV (As := []) (rest := []) C hW ci_Al_size m_91 m_92 m_93 d_Br_belt_20 ea16 t17 (by decide) rfl rfl rfl hl.1 (by decide) ⟨Nat.le_of_ble_eq_true rfl, Nat.le_of_ble_eq_true rfl⟩ ⟨Nat.le_trans (Nat.add_le_add_left (Nat.zero_le _) _) hc, Nat.le_trans (Nat.add_le_add_left (Nat.zero_le _) _) hs⟩ (c_Al_size hl0 _ _ hq) (fun _ _ _ _ _ _ h => h.elim) (fun v18 w19 H locs hv hW => ?_)
  obtain ⟨i24, rfl, hq⟩ := hv
  have hc := bw_bud0 hc
  have hs := bw_bud0 hs
  refine W.eq (g2 := F0 m 23 ls [.int i24]) rfl ?_
  refine lv_istore_n (i := 3) (lv' := [(3, .int i24), (0, va_rf (some x0)), (1, .int x1), (2, .int x2)]) hx hb d_Br_belt_23 rfl hl (by decide) (by simp [bw_cat, cat_i, cat_j]) (fun ls hl => ?_)
  refine lv_iload_n hx hb d_Br_belt_24 rfl (lv_at hl 0 rfl) ?_
  refine lv_bipush (v := 8) hx hb d_Br_belt_25 (by decide) ?_
  refine lv_icmp_lt (tgt := 40) hx hb d_Br_belt_27 (by decide) (fun c25 => ?_) (fun c25 => ?_)
  · have hq := hq.1 c25
    refine bw_aload_n hx hb d_Br_belt_40 rfl (lv_at hl 1 rfl) ?_
    obtain ⟨t26, hq⟩ := hq
    refine bw_getR hx hb ht in_Br hown hK hW rfl t26 (by decide) rfl 0 (by decide) rfl (ht _ m_59) (fun _ h => h) d_Br_belt_41 ?_
    obtain ⟨h28, h29, hq⟩ := hq
    refine bw_mk (ci := 0) hx hb ht in_Bt y_Bt yk_Bt hown (ht _ m_113) (ht _ m_212) (ht _ m_11) hK hW hA (by decide) (by rfl) df_Bt (Nat.le_trans (Nat.add_le_add_left h28 _) hc) (Nat.le_trans (Nat.add_le_add_left h29 _) hs) d_Br_belt_44 (fun q27 H n30 hW => ?_)
    obtain ⟨w31, ew31⟩ : ∃ z : Wd, z = bw_new w19 q27 0 0 := ⟨_, rfl⟩
    rw [← ew31] at hW
    have hq := hq q27 n30 w31 ew31
    have hc := bw_bud hc h28
    have hs := bw_bud hs h29
    have t26 : bw_is w31 x0 5 := by rw [ew31]; exact bw_is_new n30 t26
    have t32 : bw_is w31 q27 0 := by rw [ew31]; exact bw_is_self _ _ _ _
    refine lv_dup hx hb d_Br_belt_47 (bw_cat _) ?_
    refine lv_iload_n hx hb d_Br_belt_48 rfl (lv_at hl 0 rfl) ?_
    refine lv_iload_n hx hb d_Br_belt_49 rfl (lv_at hl 2 rfl) ?_
    refine lv_iload_n hx hb d_Br_belt_50 rfl (lv_at hl 3 rfl) ?_
    obtain ⟨k35, k36, h37, h38, hq⟩ := hq
    refine bw_callI (As := [.int i24, .int x1, .int x2]) (rest := [va_rf (some q27), va_rf (wR w19 x0 0)]) C hW ci_Bt_init rfl m_213 m_214 d_Br_belt_51 rfl rfl hl.1 (by simp [bw_cat, cat_i, cat_j]) ⟨Nat.le_of_ble_eq_true rfl, Nat.le_of_ble_eq_true rfl⟩ ⟨Nat.le_trans (Nat.add_le_add_left h37 _) hc, Nat.le_trans (Nat.add_le_add_left h38 _) hs⟩ (c_Bt_init hl0 _ _ _ _ _ _ _ hq) (fun v33 w34 H locs hv hW => ?_)
    obtain ⟨rfl, hq⟩ := hv
    have hc := bw_bud hc h37
    have hs := bw_bud hs h38
    refine W.eq (g2 := F0 m 54 ls [va_rf (some q27), va_rf (wR w19 x0 0)]) rfl ?_
    obtain ⟨a40, ea40, hq⟩ := hq
    obtain ⟨t41, hq⟩ := hq
    obtain ⟨k44, k45, h46, h47, hq⟩ := hq
    refine bw_callV (As := [va_rf (some q27)]) (rest := []) C hW ci_Al_add m_274 m_275 m_276 d_Br_belt_54 ea40 t41 (by decide) rfl rfl rfl hl.1 (by decide) ⟨Nat.le_of_ble_eq_true rfl, Nat.le_of_ble_eq_true rfl⟩ ⟨Nat.le_trans (Nat.add_le_add_left h46 _) hc, Nat.le_trans (Nat.add_le_add_left h47 _) hs⟩ (c_Al_add hl0 _ _ _ _ _ hq) (fun _ _ _ _ _ _ h => h.elim) (fun v42 w43 H locs hv hW => ?_)
    obtain ⟨i48, rfl, hq⟩ := hv
    have hc := bw_bud hc h46
    have hs := bw_bud hs h47
    refine W.eq (g2 := F0 m 57 ls [.int i48]) rfl ?_
    refine lv_pop hx hb d_Br_belt_57 rfl ?_
    refine lv_iload_n hx hb d_Br_belt_58 rfl (lv_at hl 0 rfl) ?_
    exact bw_iret C hW ⟨_, rfl, hq⟩ d_Br_belt_59 (Nat.le_trans (Nat.le_add_right _ _) hc) (Nat.le_trans (Nat.le_add_right _ _) hs)
  · have hq := hq.2 c25
    obtain ⟨h49, h50, hq⟩ := hq
    exact bw_throw C hW rfl xa_Uo (ht _ m_196) (is := 51) (text := "no room for another belt") (by decide +kernel) hq hl.1 h49 h50 hc hs rfl rfl (Nat.le_of_ble_eq_true rfl) (by exact Nat.le_of_ble_eq_true rfl) d_Br_belt_30 d_Br_belt_33 d_Br_belt_34 d_Br_belt_36 d_Br_belt_39
theorem ci_Br_belt : CI n_Br_belt b_Br_belt 4 (some .int) 2 := ⟨m_122, m_1, by decide, by decide, by decide +kernel⟩
theorem c_Br_belt {l : Launch} {D : va_G} {AC : Nat → ClassId} {e0 mi : Nat} {Q : Int32 → Wd → Prop} {X : String → Wd → Prop} (hl0 : l.stackTraces = false) (x0 : Nat) (x1 : Int32) (x2 : Int32) (w : Wd) (nc ns : Nat) (hq : wp_Br_belt e0 mi x0 x1 x2 w nc ns Q X) : Ct l D AC e0 mi n_Br_belt (wy n_Br_belt b_Br_belt 4 (some .int)) 8 171 [va_rf (some x0), .int x1, .int x2] w nc ns (fun v w9 => ∃ r9 : Int32, v = some (.int r9) ∧ Q r9 w9) X :=
  Ct.of hl0 (by decide) (by simp [lg_sl, bw_cat, cat_i, cat_j]) (fun p e s m args below meth c A ls C hW hl => k_Br_belt_0 C x0 x1 x2 w nc ns hq s.heap [] 0 0 ls hW (by simpa [lv_args, bw_cat, cat_i, cat_j] using hl) (Nat.le_of_eq (Nat.zero_add _)) (Nat.le_of_eq (Nat.zero_add _)))
def wp_Br_join (e0 mi : Nat) (x0 : Nat) (x1 : Int32) (x2 : Int32) (x3 : Int32) (x4 : Int32) (w : Wd) (nc ns : Nat) (Q : Int32 → Wd → Prop) (X : String → Wd → Prop) : Prop :=
  bw_is w x0 5 ∧ (∃ k4 k5 : Nat, k4 ≤ nc ∧ k5 ≤ ns ∧ wp_Br_findBelt e0 mi x0 x1 w k4 k5 (fun r8 w3 => bw_is w3 x0 5 ∧ (∃ k12 k13 : Nat, k12 ≤ (nc - k4) ∧ k13 ≤ (ns - k5) ∧ wp_Br_findBelt e0 mi x0 x3 w3 k12 k13 (fun r16 w11 => ∃ k19 k20 : Nat, k19 ≤ ((nc - k4) - k12) ∧ k20 ≤ ((ns - k5) - k13) ∧ wp_Br_checkRange e0 mi x2 (0 : Int32) (1 : Int32) w11 k19 k20 (fun w18 => ∃ k26 k27 : Nat, k26 ≤ (((nc - k4) - k12) - k19) ∧ k27 ≤ (((ns - k5) - k13) - k20) ∧ wp_Br_checkRange e0 mi x4 (1 : Int32) (9 : Int32) w18 k26 k27 (fun w25 => (x1 < x3 → (∃ a32 : Nat, r8 = some a32 ∧ (bw_is w25 a32 0 ∧ (wp_Bt_wayNumbered e0 mi a32 x2 w25 (fun r40 w35 => ∃ a41 : Nat, r40 = some a41 ∧ (bw_is w35 a41 4 ∧ (wp_Wy_leadTo e0 mi a41 r16 x4 w35 (fun w44 => bw_is w44 x0 5 ∧ (wp_Br_waysTo e0 mi x0 r16 w44 (fun i57 w52 => Q i57 w52)))))))))) ∧ (¬ x1 < x3 → (1 ≤ ((((nc - k4) - k12) - k19) - k26) ∧ 6 ≤ ((((ns - k5) - k13) - k20) - k27) ∧ X "java/lang/IllegalArgumentException" w25))) X) X) X)) X)
set_option maxHeartbeats 4000000 in
set_option maxRecDepth 100000 in
theorem k_Br_join_0 {p : Program} {l : Launch} {e : Env} {s : State} {m : MethodId} {args : Array Value} {below : List Frame} {meth : Method} {c : Code} {D : va_G} {AC : Nat → ClassId} {e0 mi : Nat} {A : Nat → Prop} {mc ms : Nat} {Q : Int32 → Wd → Prop} {X : String → Wd → Prop} (C : Cx p l s m args meth c D AC e0 mi A n_Br_join b_Br_join 7 (some .int)) (x0 : Nat) (x1 : Int32) (x2 : Int32) (x3 : Int32) (x4 : Int32) (w : Wd) (nc ns : Nat) (hq : wp_Br_join e0 mi x0 x1 x2 x3 x4 w nc ns Q X) : ∀ (H : Heap) (locs : List Loc) (cells slots : Nat) (ls : Array Slot), HW D cls8 FTc AC A s.heap H locs w → lv_has ls 7 [(0, va_rf (some x0)), (1, .int x1), (2, .int x2), (3, .int x3), (4, .int x4)] → cells + nc ≤ mc → slots + ns ≤ ms → W p l e { frames := 8, cells := mc, slots := ms, locals := 125 } s m args below meth c H locs cells slots (vx_MQ below (QQ D AC A (fun v w9 => ∃ r9 : Int32, v = some (.int r9) ∧ Q r9 w9)) (XX D AC A X) args s mc ms A) (F0 m 0 ls []) := by
  obtain ⟨hl0, hx, hb, hr, ht, hown, hlocks, hnm, hml, hex, hK, hA, hZ, hV⟩ := id C
  intro H locs cells slots ls hW hl hc hs
  unfold wp_Br_join at hq
  refine bw_aload_n hx hb d_Br_join_0 rfl (lv_at hl 0 rfl) ?_
  refine lv_iload_n hx hb d_Br_join_1 rfl (lv_at hl 1 rfl) ?_
  obtain ⟨t1, hq⟩ := hq
  obtain ⟨k4, k5, h6, h7, hq⟩ := hq
  refine bw_callV (As := [.int x1]) (rest := []) C hW ci_Br_findBelt m_342 m_344 sel_Br_findBelt d_Br_join_2 rfl t1 (by decide) rfl rfl rfl hl.1 (by decide) ⟨Nat.le_of_ble_eq_true rfl, Nat.le_of_ble_eq_true rfl⟩ ⟨Nat.le_trans (Nat.add_le_add_left h6 _) hc, Nat.le_trans (Nat.add_le_add_left h7 _) hs⟩ (c_Br_findBelt hl0 _ _ _ _ _ hq) (fun _ _ _ _ _ _ h hW h1 h2 h3 => bw_up C (fun _ _ z => z) h hW h1 h2 h3 (Nat.le_trans (Nat.add_le_add_left h6 _) hc) (Nat.le_trans (Nat.add_le_add_left h7 _) hs)) (fun v2 w3 H locs hv hW => ?_)
  obtain ⟨r8, rfl, hq⟩ := hv
  have hc := bw_bud hc h6
  have hs := bw_bud hs h7
  refine W.eq (g2 := F0 m 5 ls [va_rf r8]) rfl ?_
  refine bw_astore (lv' := [(5, va_rf r8), (0, va_rf (some x0)), (1, .int x1), (2, .int x2), (3, .int x3), (4, .int x4)]) hx hb d_Br_join_5 hl (by decide) (by simp [bw_cat, cat_i, cat_j]) (fun ls hl => ?_)
  refine bw_aload_n hx hb d_Br_join_7 rfl (lv_at hl 1 rfl) ?_
  refine lv_iload_n hx hb d_Br_join_8 rfl (lv_at hl 4 rfl) ?_
  obtain ⟨t9, hq⟩ := hq
  obtain ⟨k12, k13, h14, h15, hq⟩ := hq
  refine bw_callV (As := [.int x3]) (rest := []) C hW ci_Br_findBelt m_342 m_344 sel_Br_findBelt d_Br_join_9 rfl t9 (by decide) rfl rfl rfl hl.1 (by decide) ⟨Nat.le_of_ble_eq_true rfl, Nat.le_of_ble_eq_true rfl⟩ ⟨Nat.le_trans (Nat.add_le_add_left h14 _) hc, Nat.le_trans (Nat.add_le_add_left h15 _) hs⟩ (c_Br_findBelt hl0 _ _ _ _ _ hq) (fun _ _ _ _ _ _ h hW h1 h2 h3 => bw_up C (fun _ _ z => z) h hW h1 h2 h3 (Nat.le_trans (Nat.add_le_add_left h14 _) hc) (Nat.le_trans (Nat.add_le_add_left h15 _) hs)) (fun v10 w11 H locs hv hW => ?_)
  obtain ⟨r16, rfl, hq⟩ := hv
  have hc := bw_bud hc h14
  have hs := bw_bud hs h15
  refine W.eq (g2 := F0 m 12 ls [va_rf r16]) rfl ?_
  refine bw_astore (lv' := [(6, va_rf r16), (5, va_rf r8), (0, va_rf (some x0)), (1, .int x1), (2, .int x2), (3, .int x3), (4, .int x4)]) hx hb d_Br_join_12 hl (by decide) (by simp [bw_cat, cat_i, cat_j]) (fun ls hl => ?_)
  refine lv_iload_n hx hb d_Br_join_14 rfl (lv_at hl 4 rfl) ?_
  refine lv_iconst (v := 0) hx hb d_Br_join_15 (by decide) ?_
  refine lv_iconst (v := 1) hx hb d_Br_join_16 (by decide) ?_
  obtain ⟨k19, k20, h21, h22, hq⟩ := hq
  refine bw_callS (As := [.int x2, .int (0 : Int32), .int (1 : Int32)]) (rest := []) C hW ci_Br_checkRange m_123 m_124 d_Br_join_17 rfl rfl hl.1 (by decide) ⟨Nat.le_of_ble_eq_true rfl, Nat.le_of_ble_eq_true rfl⟩ ⟨Nat.le_trans (Nat.add_le_add_left h21 _) hc, Nat.le_trans (Nat.add_le_add_left h22 _) hs⟩ (c_Br_checkRange hl0 _ _ _ _ _ _ hq) (fun _ _ _ _ _ _ h hW h1 h2 h3 => bw_up C (fun _ _ z => z) h hW h1 h2 h3 (Nat.le_trans (Nat.add_le_add_left h21 _) hc) (Nat.le_trans (Nat.add_le_add_left h22 _) hs)) (fun v17 w18 H locs hv hW => ?_)
  obtain ⟨rfl, hq⟩ := hv
  have hc := bw_bud hc h21
  have hs := bw_bud hs h22
  refine W.eq (g2 := F0 m 20 ls []) rfl ?_
  refine lv_iload hx hb d_Br_join_20 (lv_at hl 6 rfl) ?_
  refine lv_iconst (v := 1) hx hb d_Br_join_22 (by decide) ?_
  refine lv_bipush (v := 9) hx hb d_Br_join_23 (by decide) ?_
  obtain ⟨k26, k27, h28, h29, hq⟩ := hq
  refine bw_callS (As := [.int x4, .int (1 : Int32), .int (9 : Int32)]) (rest := []) C hW ci_Br_checkRange m_123 m_124 d_Br_join_25 rfl rfl hl.1 (by decide) ⟨Nat.le_of_ble_eq_true rfl, Nat.le_of_ble_eq_true rfl⟩ ⟨Nat.le_trans (Nat.add_le_add_left h28 _) hc, Nat.le_trans (Nat.add_le_add_left h29 _) hs⟩ (c_Br_checkRange hl0 _ _ _ _ _ _ hq) (fun _ _ _ _ _ _ h hW h1 h2 h3 => bw_up C (fun _ _ z => z) h hW h1 h2 h3 (Nat.le_trans (Nat.add_le_add_left h28 _) hc) (Nat.le_trans (Nat.add_le_add_left h29 _) hs)) (fun v24 w25 H locs hv hW => ?_)
  obtain ⟨rfl, hq⟩ := hv
  have hc := bw_bud hc h28
  have hs := bw_bud hs h29
  refine W.eq (g2 := F0 m 28 ls []) rfl ?_
  refine lv_iload_n hx hb d_Br_join_28 rfl (lv_at hl 5 rfl) ?_
  refine lv_iload_n hx hb d_Br_join_29 rfl (lv_at hl 3 rfl) ?_
  refine lv_icmp_gt (tgt := 43) hx hb d_Br_join_30 (by decide) (fun c31 => ?_) (fun c31 => ?_)
  · have hq := hq.1 c31
    refine bw_aload hx hb d_Br_join_43 (lv_at hl 1 rfl) ?_
    refine lv_iload_n hx hb d_Br_join_45 rfl (lv_at hl 4 rfl) ?_
    obtain ⟨a32, ea32, hq⟩ := hq
    obtain ⟨t33, hq⟩ := hq
    refine bw_callV (As := [.int x2]) (rest := []) C hW ci_Bt_wayNumbered m_363 m_364 m_365 d_Br_join_46 ea32 t33 (by decide) rfl rfl rfl hl.1 (by decide) ⟨Nat.le_of_ble_eq_true rfl, Nat.le_of_ble_eq_true rfl⟩ ⟨Nat.le_trans (Nat.add_le_add_left (Nat.zero_le _) _) hc, Nat.le_trans (Nat.add_le_add_left (Nat.zero_le _) _) hs⟩ (c_Bt_wayNumbered hl0 _ _ _ hq) (fun _ _ _ _ _ _ h => h.elim) (fun v34 w35 H locs hv hW => ?_)
    obtain ⟨r40, rfl, hq⟩ := hv
    have hc := bw_bud0 hc
    have hs := bw_bud0 hs
    refine W.eq (g2 := F0 m 49 ls [va_rf r40]) rfl ?_
    refine bw_aload hx hb d_Br_join_49 (lv_at hl 0 rfl) ?_
    refine lv_iload hx hb d_Br_join_51 (lv_at hl 6 rfl) ?_
    obtain ⟨a41, ea41, hq⟩ := hq
    obtain ⟨t42, hq⟩ := hq
    refine bw_callV (As := [va_rf r16, .int x4]) (rest := []) C hW ci_Wy_leadTo m_367 m_368 m_369 d_Br_join_53 ea41 t42 (by decide) rfl rfl rfl hl.1 (by decide) ⟨Nat.le_of_ble_eq_true rfl, Nat.le_of_ble_eq_true rfl⟩ ⟨Nat.le_trans (Nat.add_le_add_left (Nat.zero_le _) _) hc, Nat.le_trans (Nat.add_le_add_left (Nat.zero_le _) _) hs⟩ (c_Wy_leadTo hl0 _ _ _ _ hq) (fun _ _ _ _ _ _ h => h.elim) (fun v43 w44 H locs hv hW => ?_)
    obtain ⟨rfl, hq⟩ := hv
    have hc := bw_bud0 hc
    have hs := bw_bud0 hs
    refine W.eq (g2 := F0 m 56 ls []) rfl ?_
    refine bw_aload_n hx hb d_Br_join_56 rfl (lv_at hl 2 rfl) ?_
    refine bw_aload hx hb d_Br_join_57 (lv_at hl 0 rfl) ?_
    obtain ⟨t50, hq⟩ := hq
    refine bw_callV (As := [va_rf r16]) (rest := []) C hW ci_Br_waysTo m_371 m_373 sel_Br_waysTo d_Br_join_59 rfl t50 (by decide) rfl rfl rfl hl.1 (by decide) ⟨Nat.le_of_ble_eq_true rfl, Nat.le_of_ble_eq_true rfl⟩ ⟨Nat.le_trans (Nat.add_le_add_left (Nat.zero_le _) _) hc, Nat.le_trans (Nat.add_le_add_left (Nat.zero_le _) _) hs⟩ (c_Br_waysTo hl0 _ _ _ hq) (fun _ _ _ _ _ _ h => h.elim) (fun v51 w52 H locs hv hW => ?_)
    obtain ⟨i57, rfl, hq⟩ := hv
    have hc := bw_bud0 hc
    have hs := bw_bud0 hs
    refine W.eq (g2 := F0 m 62 ls [.int i57]) rfl ?_
    exact bw_iret C hW ⟨_, rfl, hq⟩ d_Br_join_62 (Nat.le_trans (Nat.le_add_right _ _) hc) (Nat.le_trans (Nat.le_add_right _ _) hs)
  · have hq := hq.2 c31
    obtain ⟨h58, h59, hq⟩ := hq
    exact bw_throw C hW rfl xa_Ia (ht _ m_126) (is := 70) (text := "the next belt did not come later") (by decide +kernel) hq hl.1 h58 h59 hc hs rfl rfl (Nat.le_of_ble_eq_true rfl) (by exact Nat.le_of_ble_eq_true rfl) d_Br_join_33 d_Br_join_36 d_Br_join_37 d_Br_join_39 d_Br_join_42
theorem ci_Br_join : CI n_Br_join b_Br_join 7 (some .int) 4 := ⟨m_341, m_1, by decide, by decide, by decide +kernel⟩
theorem c_Br_join {l : Launch} {D : va_G} {AC : Nat → ClassId} {e0 mi : Nat} {Q : Int32 → Wd → Prop} {X : String → Wd → Prop} (hl0 : l.stackTraces = false) (x0 : Nat) (x1 : Int32) (x2 : Int32) (x3 : Int32) (x4 : Int32) (w : Wd) (nc ns : Nat) (hq : wp_Br_join e0 mi x0 x1 x2 x3 x4 w nc ns Q X) : Ct l D AC e0 mi n_Br_join (wy n_Br_join b_Br_join 7 (some .int)) 8 125 [va_rf (some x0), .int x1, .int x2, .int x3, .int x4] w nc ns (fun v w9 => ∃ r9 : Int32, v = some (.int r9) ∧ Q r9 w9) X :=
  Ct.of hl0 (by decide) (by simp [lg_sl, bw_cat, cat_i, cat_j]) (fun p e s m args below meth c A ls C hW hl => k_Br_join_0 C x0 x1 x2 x3 x4 w nc ns hq s.heap [] 0 0 ls hW (by simpa [lv_args, bw_cat, cat_i, cat_j] using hl) (Nat.le_of_eq (Nat.zero_add _)) (Nat.le_of_eq (Nat.zero_add _)))
def wp_Br_run (e0 mi : Nat) (x0 : Nat) (x1 : Int32) (x2 : Int32) (x3 : Int32) (w : Wd) (nc ns : Nat) (Q : Wd → Prop) (X : String → Wd → Prop) : Prop :=
  bw_is w x0 5 ∧ (∃ k4 k5 : Nat, k4 ≤ nc ∧ k5 ≤ ns ∧ wp_Br_findBelt e0 mi x0 x1 w k4 k5 (fun r8 w3 => ∃ k11 k12 : Nat, k11 ≤ (nc - k4) ∧ k12 ≤ (ns - k5) ∧ wp_Br_checkRange e0 mi x2 (0 : Int32) (1000 : Int32) w3 k11 k12 (fun w10 => ∃ a16 : Nat, r8 = some a16 ∧ (bw_is w10 a16 0 ∧ (bw_b x3 ∧ (Q (sI (sI w10 a16 2 x2) a16 3 x3))))) X) X)
set_option maxHeartbeats 4000000 in
set_option maxRecDepth 100000 in
theorem k_Br_run_0 {p : Program} {l : Launch} {e : Env} {s : State} {m : MethodId} {args : Array Value} {below : List Frame} {meth : Method} {c : Code} {D : va_G} {AC : Nat → ClassId} {e0 mi : Nat} {A : Nat → Prop} {mc ms : Nat} {Q : Wd → Prop} {X : String → Wd → Prop} (C : Cx p l s m args meth c D AC e0 mi A n_Br_run b_Br_run 5 none) (x0 : Nat) (x1 : Int32) (x2 : Int32) (x3 : Int32) (w : Wd) (nc ns : Nat) (hq : wp_Br_run e0 mi x0 x1 x2 x3 w nc ns Q X) : ∀ (H : Heap) (locs : List Loc) (cells slots : Nat) (ls : Array Slot), HW D cls8 FTc AC A s.heap H locs w → lv_has ls 5 [(0, va_rf (some x0)), (1, .int x1), (2, .int x2), (3, .int x3)] → cells + nc ≤ mc → slots + ns ≤ ms → W p l e { frames := 8, cells := mc, slots := ms, locals := 125 } s m args below meth c H locs cells slots (vx_MQ below (QQ D AC A (fun v w9 => v = none ∧ Q w9)) (XX D AC A X) args s mc ms A) (F0 m 0 ls []) := by
  obtain ⟨hl0, hx, hb, hr, ht, hown, hlocks, hnm, hml, hex, hK, hA, hZ, hV⟩ := id C
  intro H locs cells slots ls hW hl hc hs
  unfold wp_Br_run at hq
  refine bw_aload_n hx hb d_Br_run_0 rfl (lv_at hl 0 rfl) ?_
  refine lv_iload_n hx hb d_Br_run_1 rfl (lv_at hl 1 rfl) ?_
  obtain ⟨t1, hq⟩ := hq
  obtain ⟨k4, k5, h6, h7, hq⟩ := hq
  refine bw_callV (As := [.int x1]) (rest := []) C hW ci_Br_findBelt m_342 m_344 sel_Br_findBelt d_Br_run_2 rfl t1 (by decide) rfl rfl rfl hl.1 (by decide) ⟨Nat.le_of_ble_eq_true rfl, Nat.le_of_ble_eq_true rfl⟩ ⟨Nat.le_trans (Nat.add_le_add_left h6 _) hc, Nat.le_trans (Nat.add_le_add_left h7 _) hs⟩ (c_Br_findBelt hl0 _ _ _ _ _ hq) (fun _ _ _ _ _ _ h hW h1 h2 h3 => bw_up C (fun _ _ z => z) h hW h1 h2 h3 (Nat.le_trans (Nat.add_le_add_left h6 _) hc) (Nat.le_trans (Nat.add_le_add_left h7 _) hs)) (fun v2 w3 H locs hv hW => ?_)
  obtain ⟨r8, rfl, hq⟩ := hv
  have hc := bw_bud hc h6
  have hs := bw_bud hs h7
  refine W.eq (g2 := F0 m 5 ls [va_rf r8]) rfl ?_
  refine bw_astore (lv' := [(4, va_rf r8), (0, va_rf (some x0)), (1, .int x1), (2, .int x2), (3, .int x3)]) hx hb d_Br_run_5 hl (by decide) (by simp [bw_cat, cat_i, cat_j]) (fun ls hl => ?_)
  refine lv_iload_n hx hb d_Br_run_7 rfl (lv_at hl 3 rfl) ?_
  refine lv_iconst (v := 0) hx hb d_Br_run_8 (by decide) ?_
  refine lv_sipush (v := 1000) hx hb d_Br_run_9 (by decide) ?_
  obtain ⟨k11, k12, h13, h14, hq⟩ := hq
  refine bw_callS (As := [.int x2, .int (0 : Int32), .int (1000 : Int32)]) (rest := []) C hW ci_Br_checkRange m_123 m_124 d_Br_run_12 rfl rfl hl.1 (by decide) ⟨Nat.le_of_ble_eq_true rfl, Nat.le_of_ble_eq_true rfl⟩ ⟨Nat.le_trans (Nat.add_le_add_left h13 _) hc, Nat.le_trans (Nat.add_le_add_left h14 _) hs⟩ (c_Br_checkRange hl0 _ _ _ _ _ _ hq) (fun _ _ _ _ _ _ h hW h1 h2 h3 => bw_up C (fun _ _ z => z) h hW h1 h2 h3 (Nat.le_trans (Nat.add_le_add_left h13 _) hc) (Nat.le_trans (Nat.add_le_add_left h14 _) hs)) (fun v9 w10 H locs hv hW => ?_)
  obtain ⟨rfl, hq⟩ := hv
  have hc := bw_bud hc h13
  have hs := bw_bud hs h14
  refine W.eq (g2 := F0 m 15 ls []) rfl ?_
  refine bw_aload hx hb d_Br_run_15 (lv_at hl 0 rfl) ?_
  refine lv_iload_n hx hb d_Br_run_17 rfl (lv_at hl 3 rfl) ?_
  obtain ⟨a16, ea16, hq⟩ := hq
  obtain ⟨t17, hq⟩ := hq
  refine bw_putI hx hb ht in_Bt y_Bt yk_Bt nm_Bt hown hK hW ea16 t17 (by decide) rfl 2 (by decide) rfl (ht _ m_243) (fun _ h => h) (Or.inl rfl) rfl rfl d_Br_run_18 (fun H locs hW => ?_)
  refine bw_aload hx hb d_Br_run_21 (lv_at hl 0 rfl) ?_
  refine lv_iload_n hx hb d_Br_run_23 rfl (lv_at hl 4 rfl) ?_
  obtain ⟨h18, hq⟩ := hq
  refine bw_putI hx hb ht in_Bt y_Bt yk_Bt nm_Bt hown hK hW ea16 t17 (by decide) rfl 3 (by decide) rfl (ht _ m_246) (fun _ h => h) (Or.inl rfl) (bw_bn h18) (bw_bf h18) d_Br_run_24 (fun H locs hW => ?_)
  exact bw_vret C hW ⟨rfl, hq⟩ d_Br_run_27 (Nat.le_trans (Nat.le_add_right _ _) hc) (Nat.le_trans (Nat.le_add_right _ _) hs)
theorem ci_Br_run : CI n_Br_run b_Br_run 5 none 3 := ⟨m_381, m_1, by decide, by decide, by decide +kernel⟩
theorem c_Br_run {l : Launch} {D : va_G} {AC : Nat → ClassId} {e0 mi : Nat} {Q : Wd → Prop} {X : String → Wd → Prop} (hl0 : l.stackTraces = false) (x0 : Nat) (x1 : Int32) (x2 : Int32) (x3 : Int32) (w : Wd) (nc ns : Nat) (hq : wp_Br_run e0 mi x0 x1 x2 x3 w nc ns Q X) : Ct l D AC e0 mi n_Br_run (wy n_Br_run b_Br_run 5 none) 8 125 [va_rf (some x0), .int x1, .int x2, .int x3] w nc ns (fun v w9 => v = none ∧ Q w9) X :=
  Ct.of hl0 (by decide) (by simp [lg_sl, bw_cat, cat_i, cat_j]) (fun p e s m args below meth c A ls C hW hl => k_Br_run_0 C x0 x1 x2 x3 w nc ns hq s.heap [] 0 0 ls hW (by simpa [lv_args, bw_cat, cat_i, cat_j] using hl) (Nat.le_of_eq (Nat.zero_add _)) (Nat.le_of_eq (Nat.zero_add _)))
def wp_Br_gaps (e0 mi : Nat) (x0 : Nat) (x1 : Int32) (w : Wd) (nc ns : Nat) (Q : Wd → Prop) (X : String → Wd → Prop) : Prop :=
  ∃ k3 k4 : Nat, k3 ≤ nc ∧ k4 ≤ ns ∧ wp_Br_checkRange e0 mi x1 (0 : Int32) (1000 : Int32) w k3 k4 (fun w2 => bw_is w2 x0 5 ∧ (Q (sI w2 x0 6 x1))) X
set_option maxHeartbeats 4000000 in
set_option maxRecDepth 100000 in
theorem k_Br_gaps_0 {p : Program} {l : Launch} {e : Env} {s : State} {m : MethodId} {args : Array Value} {below : List Frame} {meth : Method} {c : Code} {D : va_G} {AC : Nat → ClassId} {e0 mi : Nat} {A : Nat → Prop} {mc ms : Nat} {Q : Wd → Prop} {X : String → Wd → Prop} (C : Cx p l s m args meth c D AC e0 mi A n_Br_gaps b_Br_gaps 2 none) (x0 : Nat) (x1 : Int32) (w : Wd) (nc ns : Nat) (hq : wp_Br_gaps e0 mi x0 x1 w nc ns Q X) : ∀ (H : Heap) (locs : List Loc) (cells slots : Nat) (ls : Array Slot), HW D cls8 FTc AC A s.heap H locs w → lv_has ls 2 [(0, va_rf (some x0)), (1, .int x1)] → cells + nc ≤ mc → slots + ns ≤ ms → W p l e { frames := 8, cells := mc, slots := ms, locals := 125 } s m args below meth c H locs cells slots (vx_MQ below (QQ D AC A (fun v w9 => v = none ∧ Q w9)) (XX D AC A X) args s mc ms A) (F0 m 0 ls []) := by
  obtain ⟨hl0, hx, hb, hr, ht, hown, hlocks, hnm, hml, hex, hK, hA, hZ, hV⟩ := id C
  intro H locs cells slots ls hW hl hc hs
  unfold wp_Br_gaps at hq
  refine lv_iload_n hx hb d_Br_gaps_0 rfl (lv_at hl 1 rfl) ?_
  refine lv_iconst (v := 0) hx hb d_Br_gaps_1 (by decide) ?_
  refine lv_sipush (v := 1000) hx hb d_Br_gaps_2 (by decide) ?_
  obtain ⟨k3, k4, h5, h6, hq⟩ := hq
  refine bw_callS (As := [.int x1, .int (0 : Int32), .int (1000 : Int32)]) (rest := []) C hW ci_Br_checkRange m_123 m_124 d_Br_gaps_5 rfl rfl hl.1 (by decide) ⟨Nat.le_of_ble_eq_true rfl, Nat.le_of_ble_eq_true rfl⟩ ⟨Nat.le_trans (Nat.add_le_add_left h5 _) hc, Nat.le_trans (Nat.add_le_add_left h6 _) hs⟩ (c_Br_checkRange hl0 _ _ _ _ _ _ hq) (fun _ _ _ _ _ _ h hW h1 h2 h3 => bw_up C (fun _ _ z => z) h hW h1 h2 h3 (Nat.le_trans (Nat.add_le_add_left h5 _) hc) (Nat.le_trans (Nat.add_le_add_left h6 _) hs)) (fun v1 w2 H locs hv hW => ?_)
  obtain ⟨rfl, hq⟩ := hv
  have hc := bw_bud hc h5
  have hs := bw_bud hs h6
  refine W.eq (g2 := F0 m 8 ls []) rfl ?_
  refine bw_aload_n hx hb d_Br_gaps_8 rfl (lv_at hl 0 rfl) ?_
  refine lv_iload_n hx hb d_Br_gaps_9 rfl (lv_at hl 1 rfl) ?_
  obtain ⟨t8, hq⟩ := hq
  refine bw_putI hx hb ht in_Br y_Br yk_Br nm_Br hown hK hW rfl t8 (by decide) rfl 6 (by decide) rfl (ht _ m_65) (fun _ h => h) (Or.inl rfl) rfl rfl d_Br_gaps_10 (fun H locs hW => ?_)
  exact bw_vret C hW ⟨rfl, hq⟩ d_Br_gaps_13 (Nat.le_trans (Nat.le_add_right _ _) hc) (Nat.le_trans (Nat.le_add_right _ _) hs)
theorem ci_Br_gaps : CI n_Br_gaps b_Br_gaps 2 none 1 := ⟨m_388, m_1, by decide, by decide, by decide +kernel⟩
theorem c_Br_gaps {l : Launch} {D : va_G} {AC : Nat → ClassId} {e0 mi : Nat} {Q : Wd → Prop} {X : String → Wd → Prop} (hl0 : l.stackTraces = false) (x0 : Nat) (x1 : Int32) (w : Wd) (nc ns : Nat) (hq : wp_Br_gaps e0 mi x0 x1 w nc ns Q X) : Ct l D AC e0 mi n_Br_gaps (wy n_Br_gaps b_Br_gaps 2 none) 8 125 [va_rf (some x0), .int x1] w nc ns (fun v w9 => v = none ∧ Q w9) X :=
  Ct.of hl0 (by decide) (by simp [lg_sl, bw_cat, cat_i, cat_j]) (fun p e s m args below meth c A ls C hW hl => k_Br_gaps_0 C x0 x1 w nc ns hq s.heap [] 0 0 ls hW (by simpa [lv_args, bw_cat, cat_i, cat_j] using hl) (Nat.le_of_eq (Nat.zero_add _)) (Nat.le_of_eq (Nat.zero_add _)))
def wp_Br_scanner (e0 mi : Nat) (x0 : Nat) (x1 : Int32) (x2 : Int32) (x3 : Int32) (w : Wd) (nc ns : Nat) (Q : Int32 → Wd → Prop) (X : String → Wd → Prop) : Prop :=
  bw_is w x0 5 ∧ (∃ k4 k5 : Nat, k4 ≤ nc ∧ k5 ≤ ns ∧ wp_Br_findBelt e0 mi x0 x1 w k4 k5 (fun r8 w3 => ∃ a9 : Nat, r8 = some a9 ∧ (bw_is w3 a9 0 ∧ (∃ k13 k14 : Nat, k13 ≤ (nc - k4) ∧ k14 ≤ (ns - k5) ∧ wp_Br_checkRange e0 mi x2 (1 : Int32) (wI w3 a9 1) w3 k13 k14 (fun w12 => ∃ k20 k21 : Nat, k20 ≤ ((nc - k4) - k13) ∧ k21 ≤ ((ns - k5) - k14) ∧ wp_Br_checkRange e0 mi x3 (1 : Int32) (20 : Int32) w12 k20 k21 (fun w19 => bw_is w19 x0 5 ∧ (∃ a26 : Nat, (wR w19 x0 2) = some a26 ∧ (bw_is w19 a26 7 ∧ (wp_Al_size e0 mi a26 w19 (fun i34 w29 => (i34 < (4 : Int32) → (bw_is w29 x0 5 ∧ (1 ≤ (((nc - k4) - k13) - k20) ∧ 4 ≤ (((ns - k5) - k14) - k21) ∧ ∀ q37 : Nat, q37 ∉ wL w29 → ∀ w41 : Wd, w41 = bw_new w29 q37 3 0 → (wp_Sc_init e0 mi q37 i34 r8 x2 x3 w41 (fun w44 => ∃ a50 : Nat, (wR w29 x0 2) = some a50 ∧ (bw_is w44 a50 7 ∧ (∃ k54 k55 : Nat, k54 ≤ ((((nc - k4) - k13) - k20) - 1) ∧ k55 ≤ ((((ns - k5) - k14) - k21) - 4) ∧ wp_Al_add e0 mi a50 (some q37) w44 k54 k55 (fun i58 w53 => Q i34 w53)))))))) ∧ (¬ i34 < (4 : Int32) → (1 ≤ (((nc - k4) - k13) - k20) ∧ 6 ≤ (((ns - k5) - k14) - k21) ∧ X "java/lang/UnsupportedOperationException" w29))))))) X) X))) X)
set_option maxHeartbeats 4000000 in
set_option maxRecDepth 100000 in
theorem k_Br_scanner_0 {p : Program} {l : Launch} {e : Env} {s : State} {m : MethodId} {args : Array Value} {below : List Frame} {meth : Method} {c : Code} {D : va_G} {AC : Nat → ClassId} {e0 mi : Nat} {A : Nat → Prop} {mc ms : Nat} {Q : Int32 → Wd → Prop} {X : String → Wd → Prop} (C : Cx p l s m args meth c D AC e0 mi A n_Br_scanner b_Br_scanner 6 (some .int)) (x0 : Nat) (x1 : Int32) (x2 : Int32) (x3 : Int32) (w : Wd) (nc ns : Nat) (hq : wp_Br_scanner e0 mi x0 x1 x2 x3 w nc ns Q X) : ∀ (H : Heap) (locs : List Loc) (cells slots : Nat) (ls : Array Slot), HW D cls8 FTc AC A s.heap H locs w → lv_has ls 6 [(0, va_rf (some x0)), (1, .int x1), (2, .int x2), (3, .int x3)] → cells + nc ≤ mc → slots + ns ≤ ms → W p l e { frames := 8, cells := mc, slots := ms, locals := 171 } s m args below meth c H locs cells slots (vx_MQ below (QQ D AC A (fun v w9 => ∃ r9 : Int32, v = some (.int r9) ∧ Q r9 w9)) (XX D AC A X) args s mc ms A) (F0 m 0 ls []) := by
  obtain ⟨hl0, hx, hb, hr, ht, hown, hlocks, hnm, hml, hex, hK, hA, hZ, hV⟩ := id C
  intro H locs cells slots ls hW hl hc hs
  unfold wp_Br_scanner at hq
  refine bw_aload_n hx hb d_Br_scanner_0 rfl (lv_at hl 0 rfl) ?_
  refine lv_iload_n hx hb d_Br_scanner_1 rfl (lv_at hl 1 rfl) ?_
  obtain ⟨t1, hq⟩ := hq
  obtain ⟨k4, k5, h6, h7, hq⟩ := hq
  refine bw_callV (As := [.int x1]) (rest := []) C hW ci_Br_findBelt m_342 m_344 sel_Br_findBelt d_Br_scanner_2 rfl t1 (by decide) rfl rfl rfl hl.1 (by decide) ⟨Nat.le_of_ble_eq_true rfl, Nat.le_of_ble_eq_true rfl⟩ ⟨Nat.le_trans (Nat.add_le_add_left h6 _) hc, Nat.le_trans (Nat.add_le_add_left h7 _) hs⟩ (c_Br_findBelt hl0 _ _ _ _ _ hq) (fun _ _ _ _ _ _ h hW h1 h2 h3 => bw_up C (fun _ _ z => z) h hW h1 h2 h3 (Nat.le_trans (Nat.add_le_add_left h6 _) hc) (Nat.le_trans (Nat.add_le_add_left h7 _) hs)) (fun v2 w3 H locs hv hW => ?_)
  obtain ⟨r8, rfl, hq⟩ := hv
  have hc := bw_bud hc h6
  have hs := bw_bud hs h7
  refine W.eq (g2 := F0 m 5 ls [va_rf r8]) rfl ?_
  refine bw_astore (lv' := [(4, va_rf r8), (0, va_rf (some x0)), (1, .int x1), (2, .int x2), (3, .int x3)]) hx hb d_Br_scanner_5 hl (by decide) (by simp [bw_cat, cat_i, cat_j]) (fun ls hl => ?_)
  refine lv_iload_n hx hb d_Br_scanner_7 rfl (lv_at hl 3 rfl) ?_
  refine lv_iconst (v := 1) hx hb d_Br_scanner_8 (by decide) ?_
  refine bw_aload hx hb d_Br_scanner_9 (lv_at hl 0 rfl) ?_
  obtain ⟨a9, ea9, hq⟩ := hq
  obtain ⟨t10, hq⟩ := hq
  refine bw_getI hx hb ht in_Bt hown hK hW ea9 t10 (by decide) rfl 1 (by decide) rfl (ht _ m_241) (fun _ h => h) d_Br_scanner_11 ?_
  obtain ⟨k13, k14, h15, h16, hq⟩ := hq
  refine bw_callS (As := [.int x2, .int (1 : Int32), .int (wI w3 a9 1)]) (rest := []) C hW ci_Br_checkRange m_123 m_124 d_Br_scanner_14 rfl rfl hl.1 (by decide) ⟨Nat.le_of_ble_eq_true rfl, Nat.le_of_ble_eq_true rfl⟩ ⟨Nat.le_trans (Nat.add_le_add_left h15 _) hc, Nat.le_trans (Nat.add_le_add_left h16 _) hs⟩ (c_Br_checkRange hl0 _ _ _ _ _ _ hq) (fun _ _ _ _ _ _ h hW h1 h2 h3 => bw_up C (fun _ _ z => z) h hW h1 h2 h3 (Nat.le_trans (Nat.add_le_add_left h15 _) hc) (Nat.le_trans (Nat.add_le_add_left h16 _) hs)) (fun v11 w12 H locs hv hW => ?_)
  obtain ⟨rfl, hq⟩ := hv
  have hc := bw_bud hc h15
  have hs := bw_bud hs h16
  refine W.eq (g2 := F0 m 17 ls []) rfl ?_
  refine lv_iload_n hx hb d_Br_scanner_17 rfl (lv_at hl 4 rfl) ?_
  refine lv_iconst (v := 1) hx hb d_Br_scanner_18 (by decide) ?_
  refine lv_bipush (v := 20) hx hb d_Br_scanner_19 (by decide) ?_
  obtain ⟨k20, k21, h22, h23, hq⟩ := hq
  refine bw_callS (As := [.int x3, .int (1 : Int32), .int (20 : Int32)]) (rest := []) C hW ci_Br_checkRange m_123 m_124 d_Br_scanner_21 rfl rfl hl.1 (by decide) ⟨Nat.le_of_ble_eq_true rfl, Nat.le_of_ble_eq_true rfl⟩ ⟨Nat.le_trans (Nat.add_le_add_left h22 _) hc, Nat.le_trans (Nat.add_le_add_left h23 _) hs⟩ (c_Br_checkRange hl0 _ _ _ _ _ _ hq) (fun _ _ _ _ _ _ h hW h1 h2 h3 => bw_up C (fun _ _ z => z) h hW h1 h2 h3 (Nat.le_trans (Nat.add_le_add_left h22 _) hc) (Nat.le_trans (Nat.add_le_add_left h23 _) hs)) (fun v18 w19 H locs hv hW => ?_)
  obtain ⟨rfl, hq⟩ := hv
  have hc := bw_bud hc h22
  have hs := bw_bud hs h23
  refine W.eq (g2 := F0 m 24 ls []) rfl ?_
  refine bw_aload_n hx hb d_Br_scanner_24 rfl (lv_at hl 1 rfl) ?_
  obtain ⟨t25, hq⟩ := hq
  refine bw_getR hx hb ht in_Br hown hK hW rfl t25 (by decide) rfl 2 (by decide) rfl (ht _ m_61) (fun _ h => h) d_Br_scanner_25 ?_
  obtain ⟨a26, ea26, hq⟩ := hq
  obtain ⟨t27, hq⟩ := hq
  refine bw_callV (As := []) (rest := []) C hW ci_Al_size m_91 m_92 m_93 d_Br_scanner_28 ea26 t27 (by decide) rfl rfl rfl hl.1 (by decide) ⟨Nat.le_of_ble_eq_true rfl, Nat.le_of_ble_eq_true rfl⟩ ⟨Nat.le_trans (Nat.add_le_add_left (Nat.zero_le _) _) hc, Nat.le_trans (Nat.add_le_add_left (Nat.zero_le _) _) hs⟩ (c_Al_size hl0 _ _ hq) (fun _ _ _ _ _ _ h => h.elim) (fun v28 w29 H locs hv hW => ?_)
  obtain ⟨i34, rfl, hq⟩ := hv
  have hc := bw_bud0 hc
  have hs := bw_bud0 hs
  refine W.eq (g2 := F0 m 31 ls [.int i34]) rfl ?_
  refine lv_istore (lv' := [(5, .int i34), (4, va_rf r8), (0, va_rf (some x0)), (1, .int x1), (2, .int x2), (3, .int x3)]) hx hb d_Br_scanner_31 hl (by decide) (by simp [bw_cat, cat_i, cat_j]) (fun ls hl => ?_)
  refine lv_iload hx hb d_Br_scanner_33 (lv_at hl 0 rfl) ?_
  refine lv_iconst (v := 4) hx hb d_Br_scanner_35 (by decide) ?_
  refine lv_icmp_lt (tgt := 49) hx hb d_Br_scanner_36 (by decide) (fun c35 => ?_) (fun c35 => ?_)
  · have hq := hq.1 c35
    refine bw_aload_n hx hb d_Br_scanner_49 rfl (lv_at hl 2 rfl) ?_
    obtain ⟨t36, hq⟩ := hq
    refine bw_getR hx hb ht in_Br hown hK hW rfl t36 (by decide) rfl 2 (by decide) rfl (ht _ m_61) (fun _ h => h) d_Br_scanner_50 ?_
    obtain ⟨h38, h39, hq⟩ := hq
    refine bw_mk (ci := 3) hx hb ht in_Sc y_Sc yk_Sc hown (ht _ m_397) (ht _ m_398) (ht _ m_20) hK hW hA (by decide) (by rfl) df_Sc (Nat.le_trans (Nat.add_le_add_left h38 _) hc) (Nat.le_trans (Nat.add_le_add_left h39 _) hs) d_Br_scanner_53 (fun q37 H n40 hW => ?_)
    obtain ⟨w41, ew41⟩ : ∃ z : Wd, z = bw_new w29 q37 3 0 := ⟨_, rfl⟩
    rw [← ew41] at hW
    have hq := hq q37 n40 w41 ew41
    have hc := bw_bud hc h38
    have hs := bw_bud hs h39
    have t36 : bw_is w41 x0 5 := by rw [ew41]; exact bw_is_new n40 t36
    have t42 : bw_is w41 q37 3 := by rw [ew41]; exact bw_is_self _ _ _ _
    refine lv_dup hx hb d_Br_scanner_56 (bw_cat _) ?_
    refine lv_iload hx hb d_Br_scanner_57 (lv_at hl 0 rfl) ?_
    refine bw_aload hx hb d_Br_scanner_59 (lv_at hl 1 rfl) ?_
    refine lv_iload_n hx hb d_Br_scanner_61 rfl (lv_at hl 4 rfl) ?_
    refine lv_iload_n hx hb d_Br_scanner_62 rfl (lv_at hl 5 rfl) ?_
    refine bw_callI (As := [.int i34, va_rf r8, .int x2, .int x3]) (rest := [va_rf (some q37), va_rf (wR w29 x0 2)]) C hW ci_Sc_init rfl m_399 m_400 d_Br_scanner_63 rfl rfl hl.1 (by simp [bw_cat, cat_i, cat_j]) ⟨Nat.le_of_ble_eq_true rfl, Nat.le_of_ble_eq_true rfl⟩ ⟨Nat.le_trans (Nat.add_le_add_left (Nat.zero_le _) _) hc, Nat.le_trans (Nat.add_le_add_left (Nat.zero_le _) _) hs⟩ (c_Sc_init hl0 _ _ _ _ _ _ hq) (fun v43 w44 H locs hv hW => ?_)
    obtain ⟨rfl, hq⟩ := hv
    have hc := bw_bud0 hc
    have hs := bw_bud0 hs
    refine W.eq (g2 := F0 m 66 ls [va_rf (some q37), va_rf (wR w29 x0 2)]) rfl ?_
    obtain ⟨a50, ea50, hq⟩ := hq
    obtain ⟨t51, hq⟩ := hq
    obtain ⟨k54, k55, h56, h57, hq⟩ := hq
    refine bw_callV (As := [va_rf (some q37)]) (rest := []) C hW ci_Al_add m_274 m_275 m_276 d_Br_scanner_66 ea50 t51 (by decide) rfl rfl rfl hl.1 (by decide) ⟨Nat.le_of_ble_eq_true rfl, Nat.le_of_ble_eq_true rfl⟩ ⟨Nat.le_trans (Nat.add_le_add_left h56 _) hc, Nat.le_trans (Nat.add_le_add_left h57 _) hs⟩ (c_Al_add hl0 _ _ _ _ _ hq) (fun _ _ _ _ _ _ h => h.elim) (fun v52 w53 H locs hv hW => ?_)
    obtain ⟨i58, rfl, hq⟩ := hv
    have hc := bw_bud hc h56
    have hs := bw_bud hs h57
    refine W.eq (g2 := F0 m 69 ls [.int i58]) rfl ?_
    refine lv_pop hx hb d_Br_scanner_69 rfl ?_
    refine lv_iload hx hb d_Br_scanner_70 (lv_at hl 0 rfl) ?_
    exact bw_iret C hW ⟨_, rfl, hq⟩ d_Br_scanner_72 (Nat.le_trans (Nat.le_add_right _ _) hc) (Nat.le_trans (Nat.le_add_right _ _) hs)
  · have hq := hq.2 c35
    obtain ⟨h59, h60, hq⟩ := hq
    exact bw_throw C hW rfl xa_Uo (ht _ m_196) (is := 97) (text := "no room for another scanner") (by decide +kernel) hq hl.1 h59 h60 hc hs rfl rfl (Nat.le_of_ble_eq_true rfl) (by exact Nat.le_of_ble_eq_true rfl) d_Br_scanner_39 d_Br_scanner_42 d_Br_scanner_43 d_Br_scanner_45 d_Br_scanner_48
theorem ci_Br_scanner : CI n_Br_scanner b_Br_scanner 6 (some .int) 3 := ⟨m_395, m_1, by decide, by decide, by decide +kernel⟩
theorem c_Br_scanner {l : Launch} {D : va_G} {AC : Nat → ClassId} {e0 mi : Nat} {Q : Int32 → Wd → Prop} {X : String → Wd → Prop} (hl0 : l.stackTraces = false) (x0 : Nat) (x1 : Int32) (x2 : Int32) (x3 : Int32) (w : Wd) (nc ns : Nat) (hq : wp_Br_scanner e0 mi x0 x1 x2 x3 w nc ns Q X) : Ct l D AC e0 mi n_Br_scanner (wy n_Br_scanner b_Br_scanner 6 (some .int)) 8 171 [va_rf (some x0), .int x1, .int x2, .int x3] w nc ns (fun v w9 => ∃ r9 : Int32, v = some (.int r9) ∧ Q r9 w9) X :=
  Ct.of hl0 (by decide) (by simp [lg_sl, bw_cat, cat_i, cat_j]) (fun p e s m args below meth c A ls C hW hl => k_Br_scanner_0 C x0 x1 x2 x3 w nc ns hq s.heap [] 0 0 ls hW (by simpa [lv_args, bw_cat, cat_i, cat_j] using hl) (Nat.le_of_eq (Nat.zero_add _)) (Nat.le_of_eq (Nat.zero_add _)))
def wp_Br_item (e0 mi : Nat) (x0 : Nat) (x1 : Int32) (x2 : Int32) (w : Wd) (nc ns : Nat) (Q : Int32 → Wd → Prop) (X : String → Wd → Prop) : Prop :=
  bw_is w x0 5 ∧ (∃ k4 k5 : Nat, k4 ≤ nc ∧ k5 ≤ ns ∧ wp_Br_findBelt e0 mi x0 x1 w k4 k5 (fun r8 w3 => ∃ k11 k12 : Nat, k11 ≤ (nc - k4) ∧ k12 ≤ (ns - k5) ∧ wp_Br_checkRange e0 mi x2 (1 : Int32) (2000 : Int32) w3 k11 k12 (fun w10 => bw_is w10 x0 5 ∧ (∃ a17 : Nat, (wR w10 x0 1) = some a17 ∧ (bw_is w10 a17 7 ∧ (wp_Al_size e0 mi a17 w10 (fun i25 w20 => (i25 < (60 : Int32) → (bw_is w20 x0 5 ∧ (wp_Br_missingToRoom e0 mi x0 r8 w20 (fun i34 w29 => (i34 ≤ 0 → (1 ≤ ((nc - k4) - k11) ∧ 11 ≤ ((ns - k5) - k12) ∧ ∀ q36 : Nat, q36 ∉ wL w29 → ∀ w40 : Wd, w40 = bw_new w29 q36 2 0 → (bw_is w40 x0 5 ∧ (∃ a43 : Nat, (wR w40 x0 1) = some a43 ∧ (bw_is w40 a43 7 ∧ (wp_Al_size e0 mi a43 w40 (fun i51 w46 => bw_is w46 x0 5 ∧ (bw_is w46 q36 2 ∧ (wp_It_init e0 mi q36 (i51 + (1 : Int32)) x2 (wI w46 x0 7) w46 (fun w55 => bw_is w55 x0 5 ∧ (∃ a62 : Nat, (wR w55 x0 1) = some a62 ∧ (bw_is w55 a62 7 ∧ (∃ k66 k67 : Nat, k66 ≤ (((nc - k4) - k11) - 1) ∧ k67 ≤ (((ns - k5) - k12) - 11) ∧ wp_Al_add e0 mi a62 (some q36) w55 k66 k67 (fun i70 w65 => ∃ a71 : Nat, r8 = some a71 ∧ (bw_is w65 a71 0 ∧ (wp_Bt_takeOn e0 mi a71 (some q36) w65 (fun w74 => bw_is w74 q36 2 ∧ (Q (wI w74 q36 0) w74)))))))))))))))))) ∧ (¬ i34 ≤ 0 → (Q (-i34) w29)))))) ∧ (¬ i25 < (60 : Int32) → (1 ≤ ((nc - k4) - k11) ∧ 6 ≤ ((ns - k5) - k12) ∧ X "java/lang/UnsupportedOperationException" w20))))))) X) X)
set_option maxHeartbeats 4000000 in
set_option maxRecDepth 100000 in
theorem k_Br_item_0 {p : Program} {l : Launch} {e : Env} {s : State} {m : MethodId} {args : Array Value} {below : List Frame} {meth : Method} {c : Code} {D : va_G} {AC : Nat → ClassId} {e0 mi : Nat} {A : Nat → Prop} {mc ms : Nat} {Q : Int32 → Wd → Prop} {X : String → Wd → Prop} (C : Cx p l s m args meth c D AC e0 mi A n_Br_item b_Br_item 6 (some .int)) (x0 : Nat) (x1 : Int32) (x2 : Int32) (w : Wd) (nc ns : Nat) (hq : wp_Br_item e0 mi x0 x1 x2 w nc ns Q X) : ∀ (H : Heap) (locs : List Loc) (cells slots : Nat) (ls : Array Slot), HW D cls8 FTc AC A s.heap H locs w → lv_has ls 6 [(0, va_rf (some x0)), (1, .int x1), (2, .int x2)] → cells + nc ≤ mc → slots + ns ≤ ms → W p l e { frames := 8, cells := mc, slots := ms, locals := 171 } s m args below meth c H locs cells slots (vx_MQ below (QQ D AC A (fun v w9 => ∃ r9 : Int32, v = some (.int r9) ∧ Q r9 w9)) (XX D AC A X) args s mc ms A) (F0 m 0 ls []) := by
  obtain ⟨hl0, hx, hb, hr, ht, hown, hlocks, hnm, hml, hex, hK, hA, hZ, hV⟩ := id C
  intro H locs cells slots ls hW hl hc hs
  unfold wp_Br_item at hq
  refine bw_aload_n hx hb d_Br_item_0 rfl (lv_at hl 0 rfl) ?_
  refine lv_iload_n hx hb d_Br_item_1 rfl (lv_at hl 1 rfl) ?_
  obtain ⟨t1, hq⟩ := hq
  obtain ⟨k4, k5, h6, h7, hq⟩ := hq
  refine bw_callV (As := [.int x1]) (rest := []) C hW ci_Br_findBelt m_342 m_344 sel_Br_findBelt d_Br_item_2 rfl t1 (by decide) rfl rfl rfl hl.1 (by decide) ⟨Nat.le_of_ble_eq_true rfl, Nat.le_of_ble_eq_true rfl⟩ ⟨Nat.le_trans (Nat.add_le_add_left h6 _) hc, Nat.le_trans (Nat.add_le_add_left h7 _) hs⟩ (c_Br_findBelt hl0 _ _ _ _ _ hq) (fun _ _ _ _ _ _ h hW h1 h2 h3 => bw_up C (fun _ _ z => z) h hW h1 h2 h3 (Nat.le_trans (Nat.add_le_add_left h6 _) hc) (Nat.le_trans (Nat.add_le_add_left h7 _) hs)) (fun v2 w3 H locs hv hW => ?_)
  obtain ⟨r8, rfl, hq⟩ := hv
  have hc := bw_bud hc h6
  have hs := bw_bud hs h7
  refine W.eq (g2 := F0 m 5 ls [va_rf r8]) rfl ?_
  refine bw_astore_n (i := 3) (lv' := [(3, va_rf r8), (0, va_rf (some x0)), (1, .int x1), (2, .int x2)]) hx hb d_Br_item_5 rfl hl (by decide) (by simp [bw_cat, cat_i, cat_j]) (fun ls hl => ?_)
  refine lv_iload_n hx hb d_Br_item_6 rfl (lv_at hl 3 rfl) ?_
  refine lv_iconst (v := 1) hx hb d_Br_item_7 (by decide) ?_
  refine lv_sipush (v := 2000) hx hb d_Br_item_8 (by decide) ?_
  obtain ⟨k11, k12, h13, h14, hq⟩ := hq
  refine bw_callS (As := [.int x2, .int (1 : Int32), .int (2000 : Int32)]) (rest := []) C hW ci_Br_checkRange m_123 m_124 d_Br_item_11 rfl rfl hl.1 (by decide) ⟨Nat.le_of_ble_eq_true rfl, Nat.le_of_ble_eq_true rfl⟩ ⟨Nat.le_trans (Nat.add_le_add_left h13 _) hc, Nat.le_trans (Nat.add_le_add_left h14 _) hs⟩ (c_Br_checkRange hl0 _ _ _ _ _ _ hq) (fun _ _ _ _ _ _ h hW h1 h2 h3 => bw_up C (fun _ _ z => z) h hW h1 h2 h3 (Nat.le_trans (Nat.add_le_add_left h13 _) hc) (Nat.le_trans (Nat.add_le_add_left h14 _) hs)) (fun v9 w10 H locs hv hW => ?_)
  obtain ⟨rfl, hq⟩ := hv
  have hc := bw_bud hc h13
  have hs := bw_bud hs h14
  refine W.eq (g2 := F0 m 14 ls []) rfl ?_
  refine bw_aload_n hx hb d_Br_item_14 rfl (lv_at hl 1 rfl) ?_
  obtain ⟨t16, hq⟩ := hq
  refine bw_getR hx hb ht in_Br hown hK hW rfl t16 (by decide) rfl 1 (by decide) rfl (ht _ m_60) (fun _ h => h) d_Br_item_15 ?_
  obtain ⟨a17, ea17, hq⟩ := hq
  obtain ⟨t18, hq⟩ := hq
  refine bw_callV (As := []) (rest := []) C hW ci_Al_size m_91 m_92 m_93 d_Br_item_18 ea17 t18 (by decide) rfl rfl rfl hl.1 (by decide) ⟨Nat.le_of_ble_eq_true rfl, Nat.le_of_ble_eq_true rfl⟩ ⟨Nat.le_trans (Nat.add_le_add_left (Nat.zero_le _) _) hc, Nat.le_trans (Nat.add_le_add_left (Nat.zero_le _) _) hs⟩ (c_Al_size hl0 _ _ hq) (fun _ _ _ _ _ _ h => h.elim) (fun v19 w20 H locs hv hW => ?_)
  obtain ⟨i25, rfl, hq⟩ := hv
  have hc := bw_bud0 hc
  have hs := bw_bud0 hs
  refine W.eq (g2 := F0 m 21 ls [.int i25]) rfl ?_
  refine lv_bipush (v := 60) hx hb d_Br_item_21 (by decide) ?_
  refine lv_icmp_lt (tgt := 36) hx hb d_Br_item_23 (by decide) (fun c26 => ?_) (fun c26 => ?_)
  · have hq := hq.1 c26
    refine bw_aload_n hx hb d_Br_item_36 rfl (lv_at hl 1 rfl) ?_
    refine bw_aload_n hx hb d_Br_item_37 rfl (lv_at hl 0 rfl) ?_
    obtain ⟨t27, hq⟩ := hq
    refine bw_callV (As := [va_rf r8]) (rest := []) C hW ci_Br_missingToRoom m_428 m_430 sel_Br_missingToRoom d_Br_item_38 rfl t27 (by decide) rfl rfl rfl hl.1 (by decide) ⟨Nat.le_of_ble_eq_true rfl, Nat.le_of_ble_eq_true rfl⟩ ⟨Nat.le_trans (Nat.add_le_add_left (Nat.zero_le _) _) hc, Nat.le_trans (Nat.add_le_add_left (Nat.zero_le _) _) hs⟩ (c_Br_missingToRoom hl0 _ _ _ hq) (fun _ _ _ _ _ _ h => h.elim) (fun v28 w29 H locs hv hW => ?_)
    obtain ⟨i34, rfl, hq⟩ := hv
    have hc := bw_bud0 hc
    have hs := bw_bud0 hs
    refine W.eq (g2 := F0 m 41 ls [.int i34]) rfl ?_
    refine lv_istore (lv' := [(4, .int i34), (3, va_rf r8), (0, va_rf (some x0)), (1, .int x1), (2, .int x2)]) hx hb d_Br_item_41 hl (by decide) (by simp [bw_cat, cat_i, cat_j]) (fun ls hl => ?_)
    refine lv_iload hx hb d_Br_item_43 (lv_at hl 0 rfl) ?_
    refine lv_if_le (tgt := 52) hx hb d_Br_item_45 (by decide) (fun c35 => ?_) (fun c35 => ?_)
    · have hq := hq.1 c35
      obtain ⟨h37, h38, hq⟩ := hq
      refine bw_mk (ci := 2) hx hb ht in_It y_It yk_It hown (ht _ m_437) (ht _ m_438) (ht _ m_21) hK hW hA (by decide) (by rfl) df_It (Nat.le_trans (Nat.add_le_add_left h37 _) hc) (Nat.le_trans (Nat.add_le_add_left h38 _) hs) d_Br_item_52 (fun q36 H n39 hW => ?_)
      obtain ⟨w40, ew40⟩ : ∃ z : Wd, z = bw_new w29 q36 2 0 := ⟨_, rfl⟩
      rw [← ew40] at hW
      have hq := hq q36 n39 w40 ew40
      have hc := bw_bud hc h37
      have hs := bw_bud hs h38
      have t41 : bw_is w40 q36 2 := by rw [ew40]; exact bw_is_self _ _ _ _
      refine lv_dup hx hb d_Br_item_55 (bw_cat _) ?_
      refine bw_aload_n hx hb d_Br_item_56 rfl (lv_at hl 2 rfl) ?_
      obtain ⟨t42, hq⟩ := hq
      refine bw_getR hx hb ht in_Br hown hK hW rfl t42 (by decide) rfl 1 (by decide) rfl (ht _ m_60) (fun _ h => h) d_Br_item_57 ?_
      obtain ⟨a43, ea43, hq⟩ := hq
      obtain ⟨t44, hq⟩ := hq
      refine bw_callV (As := []) (rest := [va_rf (some q36), va_rf (some q36)]) C hW ci_Al_size m_91 m_92 m_93 d_Br_item_60 ea43 t44 (by decide) rfl rfl rfl hl.1 (by simp [bw_cat, cat_i, cat_j]) ⟨Nat.le_of_ble_eq_true rfl, Nat.le_of_ble_eq_true rfl⟩ ⟨Nat.le_trans (Nat.add_le_add_left (Nat.zero_le _) _) hc, Nat.le_trans (Nat.add_le_add_left (Nat.zero_le _) _) hs⟩ (c_Al_size hl0 _ _ hq) (fun _ _ _ _ _ _ h => h.elim) (fun v45 w46 H locs hv hW => ?_)
      obtain ⟨i51, rfl, hq⟩ := hv
      have hc := bw_bud0 hc
      have hs := bw_bud0 hs
      refine W.eq (g2 := F0 m 63 ls [.int i51, va_rf (some q36), va_rf (some q36)]) rfl ?_
      refine lv_iconst (v := 1) hx hb d_Br_item_63 (by decide) ?_
      refine lv_iadd hx hb d_Br_item_64 ?_
      refine lv_iload_n hx hb d_Br_item_65 rfl (lv_at hl 4 rfl) ?_
      refine bw_aload_n hx hb d_Br_item_66 rfl (lv_at hl 2 rfl) ?_
      obtain ⟨t52, hq⟩ := hq
      refine bw_getI hx hb ht in_Br hown hK hW rfl t52 (by decide) rfl 7 (by decide) rfl (ht _ m_66) (fun _ h => h) d_Br_item_67 ?_
      obtain ⟨t53, hq⟩ := hq
      refine bw_callI (As := [.int (i51 + (1 : Int32)), .int x2, .int (wI w46 x0 7)]) (rest := [va_rf (some q36)]) C hW ci_It_init rfl m_439 m_440 d_Br_item_70 rfl rfl hl.1 (by simp [bw_cat, cat_i, cat_j]) ⟨Nat.le_of_ble_eq_true rfl, Nat.le_of_ble_eq_true rfl⟩ ⟨Nat.le_trans (Nat.add_le_add_left (Nat.zero_le _) _) hc, Nat.le_trans (Nat.add_le_add_left (Nat.zero_le _) _) hs⟩ (c_It_init hl0 _ _ _ _ _ hq) (fun v54 w55 H locs hv hW => ?_)
      obtain ⟨rfl, hq⟩ := hv
      have hc := bw_bud0 hc
      have hs := bw_bud0 hs
      refine W.eq (g2 := F0 m 73 ls [va_rf (some q36)]) rfl ?_
      refine bw_astore (lv' := [(5, va_rf (some q36)), (4, .int i34), (3, va_rf r8), (0, va_rf (some x0)), (1, .int x1), (2, .int x2)]) hx hb d_Br_item_73 hl (by decide) (by simp [bw_cat, cat_i, cat_j]) (fun ls hl => ?_)
      refine bw_aload_n hx hb d_Br_item_75 rfl (lv_at hl 3 rfl) ?_
      obtain ⟨t61, hq⟩ := hq
      refine bw_getR hx hb ht in_Br hown hK hW rfl t61 (by decide) rfl 1 (by decide) rfl (ht _ m_60) (fun _ h => h) d_Br_item_76 ?_
      refine bw_aload hx hb d_Br_item_79 (lv_at hl 0 rfl) ?_
      obtain ⟨a62, ea62, hq⟩ := hq
      obtain ⟨t63, hq⟩ := hq
      obtain ⟨k66, k67, h68, h69, hq⟩ := hq
      refine bw_callV (As := [va_rf (some q36)]) (rest := []) C hW ci_Al_add m_274 m_275 m_276 d_Br_item_81 ea62 t63 (by decide) rfl rfl rfl hl.1 (by decide) ⟨Nat.le_of_ble_eq_true rfl, Nat.le_of_ble_eq_true rfl⟩ ⟨Nat.le_trans (Nat.add_le_add_left h68 _) hc, Nat.le_trans (Nat.add_le_add_left h69 _) hs⟩ (c_Al_add hl0 _ _ _ _ _ hq) (fun _ _ _ _ _ _ h => h.elim) (fun v64 w65 H locs hv hW => ?_)
      obtain ⟨i70, rfl, hq⟩ := hv
      have hc := bw_bud hc h68
      have hs := bw_bud hs h69
      refine W.eq (g2 := F0 m 84 ls [.int i70]) rfl ?_
      refine lv_pop hx hb d_Br_item_84 rfl ?_
      refine bw_aload_n hx hb d_Br_item_85 rfl (lv_at hl 2 rfl) ?_
      refine bw_aload hx hb d_Br_item_86 (lv_at hl 0 rfl) ?_
      obtain ⟨a71, ea71, hq⟩ := hq
      obtain ⟨t72, hq⟩ := hq
      refine bw_callV (As := [va_rf (some q36)]) (rest := []) C hW ci_Bt_takeOn m_491 m_492 m_493 d_Br_item_88 ea71 t72 (by decide) rfl rfl rfl hl.1 (by decide) ⟨Nat.le_of_ble_eq_true rfl, Nat.le_of_ble_eq_true rfl⟩ ⟨Nat.le_trans (Nat.add_le_add_left (Nat.zero_le _) _) hc, Nat.le_trans (Nat.add_le_add_left (Nat.zero_le _) _) hs⟩ (c_Bt_takeOn hl0 _ _ _ hq) (fun _ _ _ _ _ _ h => h.elim) (fun v73 w74 H locs hv hW => ?_)
      obtain ⟨rfl, hq⟩ := hv
      have hc := bw_bud0 hc
      have hs := bw_bud0 hs
      refine W.eq (g2 := F0 m 91 ls []) rfl ?_
      refine bw_aload hx hb d_Br_item_91 (lv_at hl 0 rfl) ?_
      obtain ⟨t80, hq⟩ := hq
      refine bw_getI hx hb ht in_It hown hK hW rfl t80 (by decide) rfl 0 (by decide) rfl (ht _ m_444) (fun _ h => h) d_Br_item_93 ?_
      exact bw_iret C hW ⟨_, rfl, hq⟩ d_Br_item_96 (Nat.le_trans (Nat.le_add_right _ _) hc) (Nat.le_trans (Nat.le_add_right _ _) hs)
    · have hq := hq.2 c35
      refine lv_iload hx hb d_Br_item_48 (lv_at hl 0 rfl) ?_
      refine lv_ineg hx hb d_Br_item_50 ?_
      exact bw_iret C hW ⟨_, rfl, hq⟩ d_Br_item_51 (Nat.le_trans (Nat.le_add_right _ _) hc) (Nat.le_trans (Nat.le_add_right _ _) hs)
  · have hq := hq.2 c26
    obtain ⟨h81, h82, hq⟩ := hq
    exact bw_throw C hW rfl xa_Uo (ht _ m_196) (is := 104) (text := "no room for another item") (by decide +kernel) hq hl.1 h81 h82 hc hs rfl rfl (Nat.le_of_ble_eq_true rfl) (by exact Nat.le_of_ble_eq_true rfl) d_Br_item_26 d_Br_item_29 d_Br_item_30 d_Br_item_32 d_Br_item_35
theorem ci_Br_item : CI n_Br_item b_Br_item 6 (some .int) 2 := ⟨m_426, m_1, by decide, by decide, by decide +kernel⟩
theorem c_Br_item {l : Launch} {D : va_G} {AC : Nat → ClassId} {e0 mi : Nat} {Q : Int32 → Wd → Prop} {X : String → Wd → Prop} (hl0 : l.stackTraces = false) (x0 : Nat) (x1 : Int32) (x2 : Int32) (w : Wd) (nc ns : Nat) (hq : wp_Br_item e0 mi x0 x1 x2 w nc ns Q X) : Ct l D AC e0 mi n_Br_item (wy n_Br_item b_Br_item 6 (some .int)) 8 171 [va_rf (some x0), .int x1, .int x2] w nc ns (fun v w9 => ∃ r9 : Int32, v = some (.int r9) ∧ Q r9 w9) X :=
  Ct.of hl0 (by decide) (by simp [lg_sl, bw_cat, cat_i, cat_j]) (fun p e s m args below meth c A ls C hW hl => k_Br_item_0 C x0 x1 x2 w nc ns hq s.heap [] 0 0 ls hW (by simpa [lv_args, bw_cat, cat_i, cat_j] using hl) (Nat.le_of_eq (Nat.zero_add _)) (Nat.le_of_eq (Nat.zero_add _)))
def wb_Br_divert_28 (e0 mi : Nat) (Q : Int32 → Wd → Prop) (X : String → Wd → Prop) (x0 : Nat) (x1 : Int32) (x2 : Int32) (x3 : Option Nat) (z0 : Int32) (w : Wd) (nc ns : Nat) : Prop :=
  ∃ a1 : Nat, x3 = some a1 ∧ (bw_is w a1 2 ∧ (Q z0 (sI (sI w a1 9 x2) a1 10 (1 : Int32))))
set_option maxHeartbeats 4000000 in
set_option maxRecDepth 100000 in
theorem k_Br_divert_28 {p : Program} {l : Launch} {e : Env} {s : State} {m : MethodId} {args : Array Value} {below : List Frame} {meth : Method} {c : Code} {D : va_G} {AC : Nat → ClassId} {e0 mi : Nat} {A : Nat → Prop} {mc ms : Nat} {Q : Int32 → Wd → Prop} {X : String → Wd → Prop} (C : Cx p l s m args meth c D AC e0 mi A n_Br_divert b_Br_divert 5 (some .int)) (x0 : Nat) (x1 : Int32) (x2 : Int32) (x3 : Option Nat) (z0 : Int32) (w : Wd) (nc ns : Nat) (hq : wb_Br_divert_28 e0 mi Q X x0 x1 x2 x3 z0 w nc ns) : ∀ (H : Heap) (locs : List Loc) (cells slots : Nat) (ls : Array Slot), HW D cls8 FTc AC A s.heap H locs w → lv_has ls 5 [(0, va_rf (some x0)), (1, .int x1), (2, .int x2), (3, va_rf x3)] → cells + nc ≤ mc → slots + ns ≤ ms → W p l e { frames := 8, cells := mc, slots := ms, locals := 125 } s m args below meth c H locs cells slots (vx_MQ below (QQ D AC A (fun v w9 => ∃ r9 : Int32, v = some (.int r9) ∧ Q r9 w9)) (XX D AC A X) args s mc ms A) (F0 m 28 ls [.int z0]) := by
  obtain ⟨hl0, hx, hb, hr, ht, hown, hlocks, hnm, hml, hex, hK, hA, hZ, hV⟩ := id C
  intro H locs cells slots ls hW hl hc hs
  unfold wb_Br_divert_28 at hq
  refine lv_istore (lv' := [(4, .int z0), (0, va_rf (some x0)), (1, .int x1), (2, .int x2), (3, va_rf x3)]) hx hb d_Br_divert_28 hl (by decide) (by simp [bw_cat, cat_i, cat_j]) (fun ls hl => ?_)
  refine bw_aload_n hx hb d_Br_divert_30 rfl (lv_at hl 4 rfl) ?_
  refine lv_iload_n hx hb d_Br_divert_31 rfl (lv_at hl 3 rfl) ?_
  obtain ⟨a1, ea1, hq⟩ := hq
  obtain ⟨t2, hq⟩ := hq
  refine bw_putI hx hb ht in_It y_It yk_It nm_It hown hK hW ea1 t2 (by decide) rfl 9 (by decide) rfl (ht _ m_465) (fun _ h => h) (Or.inl rfl) rfl rfl d_Br_divert_32 (fun H locs hW => ?_)
  refine bw_aload_n hx hb d_Br_divert_35 rfl (lv_at hl 4 rfl) ?_
  refine lv_iconst (v := 1) hx hb d_Br_divert_36 (by decide) ?_
  refine bw_putI hx hb ht in_It y_It yk_It nm_It hown hK hW ea1 t2 (by decide) rfl 10 (by decide) rfl (ht _ m_467) (fun _ h => h) (Or.inl rfl) rfl rfl d_Br_divert_37 (fun H locs hW => ?_)
  refine lv_iload hx hb d_Br_divert_40 (lv_at hl 0 rfl) ?_
  exact bw_iret C hW ⟨_, rfl, hq⟩ d_Br_divert_42 (Nat.le_trans (Nat.le_add_right _ _) hc) (Nat.le_trans (Nat.le_add_right _ _) hs)
def wp_Br_divert (e0 mi : Nat) (x0 : Nat) (x1 : Int32) (x2 : Int32) (w : Wd) (nc ns : Nat) (Q : Int32 → Wd → Prop) (X : String → Wd → Prop) : Prop :=
  bw_is w x0 5 ∧ (∃ k4 k5 : Nat, k4 ≤ nc ∧ k5 ≤ ns ∧ wp_Br_findItem e0 mi x0 x1 w k4 k5 (fun r8 w3 => ∃ k11 k12 : Nat, k11 ≤ (nc - k4) ∧ k12 ≤ (ns - k5) ∧ wp_Br_checkRange e0 mi x2 (0 : Int32) (1 : Int32) w3 k11 k12 (fun w10 => ∃ k18 k19 : Nat, k18 ≤ ((nc - k4) - k11) ∧ k19 ≤ ((ns - k5) - k12) ∧ wp_Br_checkOnBelt e0 mi r8 w10 k18 k19 (fun w17 => ∃ a23 : Nat, r8 = some a23 ∧ (bw_is w17 a23 2 ∧ (((wI w17 a23 10) = 0 → (wb_Br_divert_28 e0 mi Q X x0 x1 x2 r8 (1 : Int32) w17 (((nc - k4) - k11) - k18) (((ns - k5) - k12) - k19))) ∧ (¬ (wI w17 a23 10) = 0 → (wb_Br_divert_28 e0 mi Q X x0 x1 x2 r8 (2 : Int32) w17 (((nc - k4) - k11) - k18) (((ns - k5) - k12) - k19)))))) X) X) X)
set_option maxHeartbeats 4000000 in
set_option maxRecDepth 100000 in
theorem k_Br_divert_0 {p : Program} {l : Launch} {e : Env} {s : State} {m : MethodId} {args : Array Value} {below : List Frame} {meth : Method} {c : Code} {D : va_G} {AC : Nat → ClassId} {e0 mi : Nat} {A : Nat → Prop} {mc ms : Nat} {Q : Int32 → Wd → Prop} {X : String → Wd → Prop} (C : Cx p l s m args meth c D AC e0 mi A n_Br_divert b_Br_divert 5 (some .int)) (x0 : Nat) (x1 : Int32) (x2 : Int32) (w : Wd) (nc ns : Nat) (hq : wp_Br_divert e0 mi x0 x1 x2 w nc ns Q X) : ∀ (H : Heap) (locs : List Loc) (cells slots : Nat) (ls : Array Slot), HW D cls8 FTc AC A s.heap H locs w → lv_has ls 5 [(0, va_rf (some x0)), (1, .int x1), (2, .int x2)] → cells + nc ≤ mc → slots + ns ≤ ms → W p l e { frames := 8, cells := mc, slots := ms, locals := 125 } s m args below meth c H locs cells slots (vx_MQ below (QQ D AC A (fun v w9 => ∃ r9 : Int32, v = some (.int r9) ∧ Q r9 w9)) (XX D AC A X) args s mc ms A) (F0 m 0 ls []) := by
  obtain ⟨hl0, hx, hb, hr, ht, hown, hlocks, hnm, hml, hex, hK, hA, hZ, hV⟩ := id C
  intro H locs cells slots ls hW hl hc hs
  unfold wp_Br_divert at hq
  refine bw_aload_n hx hb d_Br_divert_0 rfl (lv_at hl 0 rfl) ?_
  refine lv_iload_n hx hb d_Br_divert_1 rfl (lv_at hl 1 rfl) ?_
  obtain ⟨t1, hq⟩ := hq
  obtain ⟨k4, k5, h6, h7, hq⟩ := hq
  refine bw_callV (As := [.int x1]) (rest := []) C hW ci_Br_findItem m_511 m_513 sel_Br_findItem d_Br_divert_2 rfl t1 (by decide) rfl rfl rfl hl.1 (by decide) ⟨Nat.le_of_ble_eq_true rfl, Nat.le_of_ble_eq_true rfl⟩ ⟨Nat.le_trans (Nat.add_le_add_left h6 _) hc, Nat.le_trans (Nat.add_le_add_left h7 _) hs⟩ (c_Br_findItem hl0 _ _ _ _ _ hq) (fun _ _ _ _ _ _ h hW h1 h2 h3 => bw_up C (fun _ _ z => z) h hW h1 h2 h3 (Nat.le_trans (Nat.add_le_add_left h6 _) hc) (Nat.le_trans (Nat.add_le_add_left h7 _) hs)) (fun v2 w3 H locs hv hW => ?_)
  obtain ⟨r8, rfl, hq⟩ := hv
  have hc := bw_bud hc h6
  have hs := bw_bud hs h7
  refine W.eq (g2 := F0 m 5 ls [va_rf r8]) rfl ?_
  refine bw_astore_n (i := 3) (lv' := [(3, va_rf r8), (0, va_rf (some x0)), (1, .int x1), (2, .int x2)]) hx hb d_Br_divert_5 rfl hl (by decide) (by simp [bw_cat, cat_i, cat_j]) (fun ls hl => ?_)
  refine lv_iload_n hx hb d_Br_divert_6 rfl (lv_at hl 3 rfl) ?_
  refine lv_iconst (v := 0) hx hb d_Br_divert_7 (by decide) ?_
  refine lv_iconst (v := 1) hx hb d_Br_divert_8 (by decide) ?_
  obtain ⟨k11, k12, h13, h14, hq⟩ := hq
  refine bw_callS (As := [.int x2, .int (0 : Int32), .int (1 : Int32)]) (rest := []) C hW ci_Br_checkRange m_123 m_124 d_Br_divert_9 rfl rfl hl.1 (by decide) ⟨Nat.le_of_ble_eq_true rfl, Nat.le_of_ble_eq_true rfl⟩ ⟨Nat.le_trans (Nat.add_le_add_left h13 _) hc, Nat.le_trans (Nat.add_le_add_left h14 _) hs⟩ (c_Br_checkRange hl0 _ _ _ _ _ _ hq) (fun _ _ _ _ _ _ h hW h1 h2 h3 => bw_up C (fun _ _ z => z) h hW h1 h2 h3 (Nat.le_trans (Nat.add_le_add_left h13 _) hc) (Nat.le_trans (Nat.add_le_add_left h14 _) hs)) (fun v9 w10 H locs hv hW => ?_)
  obtain ⟨rfl, hq⟩ := hv
  have hc := bw_bud hc h13
  have hs := bw_bud hs h14
  refine W.eq (g2 := F0 m 12 ls []) rfl ?_
  refine bw_aload_n hx hb d_Br_divert_12 rfl (lv_at hl 0 rfl) ?_
  obtain ⟨k18, k19, h20, h21, hq⟩ := hq
  refine bw_callS (As := [va_rf r8]) (rest := []) C hW ci_Br_checkOnBelt m_516 m_517 d_Br_divert_13 rfl rfl hl.1 (by decide) ⟨Nat.le_of_ble_eq_true rfl, Nat.le_of_ble_eq_true rfl⟩ ⟨Nat.le_trans (Nat.add_le_add_left h20 _) hc, Nat.le_trans (Nat.add_le_add_left h21 _) hs⟩ (c_Br_checkOnBelt hl0 _ _ _ _ hq) (fun _ _ _ _ _ _ h hW h1 h2 h3 => bw_up C (fun _ _ z => z) h hW h1 h2 h3 (Nat.le_trans (Nat.add_le_add_left h20 _) hc) (Nat.le_trans (Nat.add_le_add_left h21 _) hs)) (fun v16 w17 H locs hv hW => ?_)
  obtain ⟨rfl, hq⟩ := hv
  have hc := bw_bud hc h20
  have hs := bw_bud hs h21
  refine W.eq (g2 := F0 m 16 ls []) rfl ?_
  refine bw_aload_n hx hb d_Br_divert_16 rfl (lv_at hl 0 rfl) ?_
  obtain ⟨a23, ea23, hq⟩ := hq
  obtain ⟨t24, hq⟩ := hq
  refine bw_getI hx hb ht in_It hown hK hW ea23 t24 (by decide) rfl 10 (by decide) rfl (ht _ m_467) (fun _ h => h) d_Br_divert_17 ?_
  refine lv_if_eq (tgt := 27) hx hb d_Br_divert_20 (by decide) (fun c25 => ?_) (fun c25 => ?_)
  · have hq := hq.1 c25
    refine lv_iconst (v := 1) hx hb d_Br_divert_27 (by decide) ?_
    exact k_Br_divert_28 C  _ _ _ _ _ _ _ _ hq _ _ _ _ _ hW (lv_sub hl [1, 2, 3, 0] rfl) hc hs
  · have hq := hq.2 c25
    refine lv_iconst (v := 2) hx hb d_Br_divert_23 (by decide) ?_
    refine lv_goto (tgt := 28) hx hb d_Br_divert_24 (by decide) ?_
    exact k_Br_divert_28 C  _ _ _ _ _ _ _ _ hq _ _ _ _ _ hW (lv_sub hl [1, 2, 3, 0] rfl) hc hs
theorem ci_Br_divert : CI n_Br_divert b_Br_divert 5 (some .int) 2 := ⟨m_510, m_1, by decide, by decide, by decide +kernel⟩
theorem c_Br_divert {l : Launch} {D : va_G} {AC : Nat → ClassId} {e0 mi : Nat} {Q : Int32 → Wd → Prop} {X : String → Wd → Prop} (hl0 : l.stackTraces = false) (x0 : Nat) (x1 : Int32) (x2 : Int32) (w : Wd) (nc ns : Nat) (hq : wp_Br_divert e0 mi x0 x1 x2 w nc ns Q X) : Ct l D AC e0 mi n_Br_divert (wy n_Br_divert b_Br_divert 5 (some .int)) 8 125 [va_rf (some x0), .int x1, .int x2] w nc ns (fun v w9 => ∃ r9 : Int32, v = some (.int r9) ∧ Q r9 w9) X :=
  Ct.of hl0 (by decide) (by simp [lg_sl, bw_cat, cat_i, cat_j]) (fun p e s m args below meth c A ls C hW hl => k_Br_divert_0 C x0 x1 x2 w nc ns hq s.heap [] 0 0 ls hW (by simpa [lv_args, bw_cat, cat_i, cat_j] using hl) (Nat.le_of_eq (Nat.zero_add _)) (Nat.le_of_eq (Nat.zero_add _)))
def wb_Br_step_17 (e0 mi : Nat) (Q : Int32 → Wd → Prop) (X : String → Wd → Prop) : Nat → Nat → Int32 → Int32 → Int32 → Wd → Nat → Nat → Prop
  | 0, _, _, _, _, _, _, _ => False
  | n + 1, x0, x1, x2, x3, w, nc, ns => (x1 ≤ x3 → (bw_is w x0 5 ∧ (∃ a3 : Nat, (wR w x0 3) = some a3 ∧ (bw_is w a3 7 ∧ (wp_Al_size e0 mi a3 w (fun i11 w6 => Q (i11 - x2) w6)))))) ∧ (¬ x1 ≤ x3 → (bw_is w x0 5 ∧ (∃ k15 k16 : Nat, k15 ≤ nc ∧ k16 ≤ ns ∧ wp_Br_passSecond e0 mi x0 w k15 k16 (fun w14 => ∀ i20 : Int32, i20 = x3 + 1 → ((wb_Br_step_17 e0 mi Q X n) x0 x1 x2 i20 w14 (nc - k15) (ns - k16))))))
set_option maxHeartbeats 4000000 in
set_option maxRecDepth 100000 in
theorem k_Br_step_17 {p : Program} {l : Launch} {e : Env} {s : State} {m : MethodId} {args : Array Value} {below : List Frame} {meth : Method} {c : Code} {D : va_G} {AC : Nat → ClassId} {e0 mi : Nat} {A : Nat → Prop} {mc ms : Nat} {Q : Int32 → Wd → Prop} {X : String → Wd → Prop} (C : Cx p l s m args meth c D AC e0 mi A n_Br_step b_Br_step 4 (some .int)) : ∀ (n : Nat) (x0 : Nat) (x1 : Int32) (x2 : Int32) (x3 : Int32) (w : Wd) (nc ns : Nat), wb_Br_step_17 e0 mi Q X n x0 x1 x2 x3 w nc ns → ∀ (H : Heap) (locs : List Loc) (cells slots : Nat) (ls : Array Slot), HW D cls8 FTc AC A s.heap H locs w → lv_has ls 4 [(0, va_rf (some x0)), (1, .int x1), (2, .int x2), (3, .int x3)] → cells + nc ≤ mc → slots + ns ≤ ms → W p l e { frames := 10, cells := mc, slots := ms, locals := 242 } s m args below meth c H locs cells slots (vx_MQ below (QQ D AC A (fun v w9 => ∃ r9 : Int32, v = some (.int r9) ∧ Q r9 w9)) (XX D AC A X) args s mc ms A) (F0 m 17 ls []) := by
  obtain ⟨hl0, hx, hb, hr, ht, hown, hlocks, hnm, hml, hex, hK, hA, hZ, hV⟩ := id C
  intro n
  induction n with
  | zero =>
    intro x0 x1 x2 x3 w nc ns hq
    exact hq.elim
  | succ n ih =>
    intro x0 x1 x2 x3 w nc ns hq H locs cells slots ls hW hl hc hs
    have hK17 := ih
    unfold wb_Br_step_17 at hq
    refine lv_iload_n hx hb d_Br_step_17 rfl (lv_at hl 3 rfl) ?_
    refine lv_iload_n hx hb d_Br_step_18 rfl (lv_at hl 1 rfl) ?_
    refine lv_icmp_ge (tgt := 32) hx hb d_Br_step_19 (by decide) (fun c1 => ?_) (fun c1 => ?_)
    · have hq := hq.1 c1
      refine bw_aload_n hx hb d_Br_step_32 rfl (lv_at hl 0 rfl) ?_
      obtain ⟨t2, hq⟩ := hq
      refine bw_getR hx hb ht in_Br hown hK hW rfl t2 (by decide) rfl 3 (by decide) rfl (ht _ m_62) (fun _ h => h) d_Br_step_33 ?_
      obtain ⟨a3, ea3, hq⟩ := hq
      obtain ⟨t4, hq⟩ := hq
      refine bw_callV (As := []) (rest := []) C hW ci_Al_size m_91 m_92 m_93 d_Br_step_36 ea3 t4 (by decide) rfl rfl rfl hl.1 (by decide) ⟨Nat.le_of_ble_eq_true rfl, Nat.le_of_ble_eq_true rfl⟩ ⟨Nat.le_trans (Nat.add_le_add_left (Nat.zero_le _) _) hc, Nat.le_trans (Nat.add_le_add_left (Nat.zero_le _) _) hs⟩ (c_Al_size hl0 _ _ hq) (fun _ _ _ _ _ _ h => h.elim) (fun v5 w6 H locs hv hW => ?_)
      obtain ⟨i11, rfl, hq⟩ := hv
      have hc := bw_bud0 hc
      have hs := bw_bud0 hs
      refine W.eq (g2 := F0 m 39 ls [.int i11]) rfl ?_
      refine lv_iload_n hx hb d_Br_step_39 rfl (lv_at hl 2 rfl) ?_
      refine lv_isub hx hb d_Br_step_40 ?_
      exact bw_iret C hW ⟨_, rfl, hq⟩ d_Br_step_41 (Nat.le_trans (Nat.le_add_right _ _) hc) (Nat.le_trans (Nat.le_add_right _ _) hs)
    · have hq := hq.2 c1
      refine bw_aload_n hx hb d_Br_step_22 rfl (lv_at hl 0 rfl) ?_
      obtain ⟨t12, hq⟩ := hq
      obtain ⟨k15, k16, h17, h18, hq⟩ := hq
      refine bw_callV (As := []) (rest := []) C hW ci_Br_passSecond m_542 m_544 sel_Br_passSecond d_Br_step_23 rfl t12 (by decide) rfl rfl rfl hl.1 (by decide) ⟨Nat.le_of_ble_eq_true rfl, Nat.le_of_ble_eq_true rfl⟩ ⟨Nat.le_trans (Nat.add_le_add_left h17 _) hc, Nat.le_trans (Nat.add_le_add_left h18 _) hs⟩ (c_Br_passSecond hl0 _ _ _ _ hq) (fun _ _ _ _ _ _ h => h.elim) (fun v13 w14 H locs hv hW => ?_)
      obtain ⟨rfl, hq⟩ := hv
      have hc := bw_bud hc h17
      have hs := bw_bud hs h18
      refine W.eq (g2 := F0 m 26 ls []) rfl ?_
      obtain ⟨i20, ei20⟩ : ∃ y : Int32, y = x3 + 1 := ⟨_, rfl⟩
      have hq := hq i20 ei20
      refine lv_iinc (v := i20) (lv' := [(3, .int i20), (0, va_rf (some x0)), (1, .int x1), (2, .int x2)]) hx hb d_Br_step_26 hl (k := 3) rfl (by rw [ei20]; rfl) (by decide) (by simp [bw_cat, cat_i, cat_j]) (fun ls hl => ?_)
      refine lv_goto (tgt := 17) hx hb d_Br_step_29 (by decide) ?_
      exact hK17 _ _ _ _ _ _ _ hq _ _ _ _ _ hW (lv_sub hl [1, 2, 3, 0] rfl) hc hs
def wp_Br_step (e0 mi : Nat) (x0 : Nat) (x1 : Int32) (w : Wd) (nc ns : Nat) (Q : Int32 → Wd → Prop) (X : String → Wd → Prop) : Prop :=
  ∃ k3 k4 : Nat, k3 ≤ nc ∧ k4 ≤ ns ∧ wp_Br_checkRange e0 mi x1 (0 : Int32) (100 : Int32) w k3 k4 (fun w2 => bw_is w2 x0 5 ∧ (∃ a9 : Nat, (wR w2 x0 3) = some a9 ∧ (bw_is w2 a9 7 ∧ (wp_Al_size e0 mi a9 w2 (fun i17 w12 => ∃ n18 : Nat, wb_Br_step_17 e0 mi Q X n18 x0 x1 i17 (0 : Int32) w12 (nc - k3) (ns - k4)))))) X
set_option maxHeartbeats 4000000 in
set_option maxRecDepth 100000 in
theorem k_Br_step_0 {p : Program} {l : Launch} {e : Env} {s : State} {m : MethodId} {args : Array Value} {below : List Frame} {meth : Method} {c : Code} {D : va_G} {AC : Nat → ClassId} {e0 mi : Nat} {A : Nat → Prop} {mc ms : Nat} {Q : Int32 → Wd → Prop} {X : String → Wd → Prop} (C : Cx p l s m args meth c D AC e0 mi A n_Br_step b_Br_step 4 (some .int)) (x0 : Nat) (x1 : Int32) (w : Wd) (nc ns : Nat) (hq : wp_Br_step e0 mi x0 x1 w nc ns Q X) : ∀ (H : Heap) (locs : List Loc) (cells slots : Nat) (ls : Array Slot), HW D cls8 FTc AC A s.heap H locs w → lv_has ls 4 [(0, va_rf (some x0)), (1, .int x1)] → cells + nc ≤ mc → slots + ns ≤ ms → W p l e { frames := 10, cells := mc, slots := ms, locals := 242 } s m args below meth c H locs cells slots (vx_MQ below (QQ D AC A (fun v w9 => ∃ r9 : Int32, v = some (.int r9) ∧ Q r9 w9)) (XX D AC A X) args s mc ms A) (F0 m 0 ls []) := by
  obtain ⟨hl0, hx, hb, hr, ht, hown, hlocks, hnm, hml, hex, hK, hA, hZ, hV⟩ := id C
  intro H locs cells slots ls hW hl hc hs
  unfold wp_Br_step at hq
  refine lv_iload_n hx hb d_Br_step_0 rfl (lv_at hl 1 rfl) ?_
  refine lv_iconst (v := 0) hx hb d_Br_step_1 (by decide) ?_
  refine lv_bipush (v := 100) hx hb d_Br_step_2 (by decide) ?_
  obtain ⟨k3, k4, h5, h6, hq⟩ := hq
  refine bw_callS (As := [.int x1, .int (0 : Int32), .int (100 : Int32)]) (rest := []) C hW ci_Br_checkRange m_123 m_124 d_Br_step_4 rfl rfl hl.1 (by decide) ⟨Nat.le_of_ble_eq_true rfl, Nat.le_of_ble_eq_true rfl⟩ ⟨Nat.le_trans (Nat.add_le_add_left h5 _) hc, Nat.le_trans (Nat.add_le_add_left h6 _) hs⟩ (c_Br_checkRange hl0 _ _ _ _ _ _ hq) (fun _ _ _ _ _ _ h hW h1 h2 h3 => bw_up C (fun _ _ z => z) h hW h1 h2 h3 (Nat.le_trans (Nat.add_le_add_left h5 _) hc) (Nat.le_trans (Nat.add_le_add_left h6 _) hs)) (fun v1 w2 H locs hv hW => ?_)
  obtain ⟨rfl, hq⟩ := hv
  have hc := bw_bud hc h5
  have hs := bw_bud hs h6
  refine W.eq (g2 := F0 m 7 ls []) rfl ?_
  refine bw_aload_n hx hb d_Br_step_7 rfl (lv_at hl 0 rfl) ?_
  obtain ⟨t8, hq⟩ := hq
  refine bw_getR hx hb ht in_Br hown hK hW rfl t8 (by decide) rfl 3 (by decide) rfl (ht _ m_62) (fun _ h => h) d_Br_step_8 ?_
  obtain ⟨a9, ea9, hq⟩ := hq
  obtain ⟨t10, hq⟩ := hq
  refine bw_callV (As := []) (rest := []) C hW ci_Al_size m_91 m_92 m_93 d_Br_step_11 ea9 t10 (by decide) rfl rfl rfl hl.1 (by decide) ⟨Nat.le_of_ble_eq_true rfl, Nat.le_of_ble_eq_true rfl⟩ ⟨Nat.le_trans (Nat.add_le_add_left (Nat.zero_le _) _) hc, Nat.le_trans (Nat.add_le_add_left (Nat.zero_le _) _) hs⟩ (c_Al_size hl0 _ _ hq) (fun _ _ _ _ _ _ h => h.elim) (fun v11 w12 H locs hv hW => ?_)
  obtain ⟨i17, rfl, hq⟩ := hv
  have hc := bw_bud0 hc
  have hs := bw_bud0 hs
  refine W.eq (g2 := F0 m 14 ls [.int i17]) rfl ?_
  refine lv_istore_n (i := 2) (lv' := [(2, .int i17), (0, va_rf (some x0)), (1, .int x1)]) hx hb d_Br_step_14 rfl hl (by decide) (by simp [bw_cat, cat_i, cat_j]) (fun ls hl => ?_)
  refine lv_iconst (v := 0) hx hb d_Br_step_15 (by decide) ?_
  refine lv_istore_n (i := 3) (lv' := [(3, .int (0 : Int32)), (2, .int i17), (0, va_rf (some x0)), (1, .int x1)]) hx hb d_Br_step_16 rfl hl (by decide) (by simp [bw_cat, cat_i, cat_j]) (fun ls hl => ?_)
  obtain ⟨n18, hq⟩ := hq
  exact k_Br_step_17 C  n18 _ _ _ _ _ _ _ hq _ _ _ _ _ hW (lv_sub hl [2, 3, 1, 0] rfl) hc hs
theorem ci_Br_step : CI n_Br_step b_Br_step 4 (some .int) 1 := ⟨m_541, m_1, by decide, by decide, by decide +kernel⟩
theorem c_Br_step {l : Launch} {D : va_G} {AC : Nat → ClassId} {e0 mi : Nat} {Q : Int32 → Wd → Prop} {X : String → Wd → Prop} (hl0 : l.stackTraces = false) (x0 : Nat) (x1 : Int32) (w : Wd) (nc ns : Nat) (hq : wp_Br_step e0 mi x0 x1 w nc ns Q X) : Ct l D AC e0 mi n_Br_step (wy n_Br_step b_Br_step 4 (some .int)) 10 242 [va_rf (some x0), .int x1] w nc ns (fun v w9 => ∃ r9 : Int32, v = some (.int r9) ∧ Q r9 w9) X :=
  Ct.of hl0 (by decide) (by simp [lg_sl, bw_cat, cat_i, cat_j]) (fun p e s m args below meth c A ls C hW hl => k_Br_step_0 C x0 x1 w nc ns hq s.heap [] 0 0 ls hW (by simpa [lv_args, bw_cat, cat_i, cat_j] using hl) (Nat.le_of_eq (Nat.zero_add _)) (Nat.le_of_eq (Nat.zero_add _)))
def wb_Br_edge_15 (e0 mi : Nat) (Q : Int32 → Wd → Prop) (X : String → Wd → Prop) (x0 : Nat) (x1 : Int32) (x2 : Int32) (w : Wd) (nc ns : Nat) : Prop :=
  1 ≤ nc ∧ 6 ≤ ns ∧ X "java/util/NoSuchElementException" w
set_option maxHeartbeats 4000000 in
set_option maxRecDepth 100000 in
theorem k_Br_edge_15 {p : Program} {l : Launch} {e : Env} {s : State} {m : MethodId} {args : Array Value} {below : List Frame} {meth : Method} {c : Code} {D : va_G} {AC : Nat → ClassId} {e0 mi : Nat} {A : Nat → Prop} {mc ms : Nat} {Q : Int32 → Wd → Prop} {X : String → Wd → Prop} (C : Cx p l s m args meth c D AC e0 mi A n_Br_edge b_Br_edge 4 (some .int)) (x0 : Nat) (x1 : Int32) (x2 : Int32) (w : Wd) (nc ns : Nat) (hq : wb_Br_edge_15 e0 mi Q X x0 x1 x2 w nc ns) : ∀ (H : Heap) (locs : List Loc) (cells slots : Nat) (ls : Array Slot), HW D cls8 FTc AC A s.heap H locs w → lv_has ls 4 [(0, va_rf (some x0)), (1, .int x1), (2, .int x2)] → cells + nc ≤ mc → slots + ns ≤ ms → W p l e { frames := 7, cells := mc, slots := ms, locals := 103 } s m args below meth c H locs cells slots (vx_MQ below (QQ D AC A (fun v w9 => ∃ r9 : Int32, v = some (.int r9) ∧ Q r9 w9)) (XX D AC A X) args s mc ms A) (F0 m 15 ls []) := by
  obtain ⟨hl0, hx, hb, hr, ht, hown, hlocks, hnm, hml, hex, hK, hA, hZ, hV⟩ := id C
  intro H locs cells slots ls hW hl hc hs
  unfold wb_Br_edge_15 at hq
  obtain ⟨h1, h2, hq⟩ := hq
  exact bw_throwN C hW rfl (ht _ m_346) (is := 137) (text := "no such edge") (by decide +kernel) hq hl.1 h1 h2 hc hs rfl rfl (Nat.le_of_ble_eq_true rfl) (by exact Nat.le_of_ble_eq_true rfl) d_Br_edge_15 d_Br_edge_18 d_Br_edge_19 d_Br_edge_21 d_Br_edge_24
def wp_Br_edge (e0 mi : Nat) (x0 : Nat) (x1 : Int32) (x2 : Int32) (w : Wd) (nc ns : Nat) (Q : Int32 → Wd → Prop) (X : String → Wd → Prop) : Prop :=
  (x1 < 0 → (wb_Br_edge_15 e0 mi Q X x0 x1 x2 w nc ns)) ∧ (¬ x1 < 0 → (bw_is w x0 5 ∧ (∃ a3 : Nat, (wR w x0 3) = some a3 ∧ (bw_is w a3 7 ∧ (wp_Al_size e0 mi a3 w (fun i11 w6 => (x1 < i11 → (bw_is w6 x0 5 ∧ (∃ a14 : Nat, (wR w6 x0 3) = some a14 ∧ (bw_is w6 a14 7 ∧ (wp_Al_get e0 mi a14 x1 w6 (fun r22 w17 => (∀ a24, r22 = some a24 → bw_is w17 a24 1) ∧ ((x2 = 0 → (∃ a26 : Nat, r22 = some a26 ∧ (bw_is w17 a26 1 ∧ (Q (wI w17 a26 0) w17)))) ∧ (x2 = 1 → (∃ a28 : Nat, r22 = some a28 ∧ (bw_is w17 a28 1 ∧ (Q (wI w17 a28 1) w17)))) ∧ (x2 = 2 → (∃ a30 : Nat, r22 = some a30 ∧ (bw_is w17 a30 1 ∧ (Q (wI w17 a30 2) w17)))) ∧ (x2 = 3 → (∃ a32 : Nat, r22 = some a32 ∧ (bw_is w17 a32 1 ∧ (Q (wI w17 a32 3) w17)))) ∧ ((x2.toInt < 0 ∨ 3 < x2.toInt) → (1 ≤ nc ∧ 6 ≤ ns ∧ X "java/lang/IllegalArgumentException" w17))))))))) ∧ (¬ x1 < i11 → (wb_Br_edge_15 e0 mi Q X x0 x1 x2 w6 nc ns))))))))
set_option maxHeartbeats 4000000 in
set_option maxRecDepth 100000 in
theorem k_Br_edge_0 {p : Program} {l : Launch} {e : Env} {s : State} {m : MethodId} {args : Array Value} {below : List Frame} {meth : Method} {c : Code} {D : va_G} {AC : Nat → ClassId} {e0 mi : Nat} {A : Nat → Prop} {mc ms : Nat} {Q : Int32 → Wd → Prop} {X : String → Wd → Prop} (C : Cx p l s m args meth c D AC e0 mi A n_Br_edge b_Br_edge 4 (some .int)) (x0 : Nat) (x1 : Int32) (x2 : Int32) (w : Wd) (nc ns : Nat) (hq : wp_Br_edge e0 mi x0 x1 x2 w nc ns Q X) : ∀ (H : Heap) (locs : List Loc) (cells slots : Nat) (ls : Array Slot), HW D cls8 FTc AC A s.heap H locs w → lv_has ls 4 [(0, va_rf (some x0)), (1, .int x1), (2, .int x2)] → cells + nc ≤ mc → slots + ns ≤ ms → W p l e { frames := 7, cells := mc, slots := ms, locals := 103 } s m args below meth c H locs cells slots (vx_MQ below (QQ D AC A (fun v w9 => ∃ r9 : Int32, v = some (.int r9) ∧ Q r9 w9)) (XX D AC A X) args s mc ms A) (F0 m 0 ls []) := by
  obtain ⟨hl0, hx, hb, hr, ht, hown, hlocks, hnm, hml, hex, hK, hA, hZ, hV⟩ := id C
  intro H locs cells slots ls hW hl hc hs
  unfold wp_Br_edge at hq
  refine lv_iload_n hx hb d_Br_edge_0 rfl (lv_at hl 1 rfl) ?_
  refine lv_if_lt (tgt := 15) hx hb d_Br_edge_1 (by decide) (fun c1 => ?_) (fun c1 => ?_)
  · have hq := hq.1 c1
    exact k_Br_edge_15 C  _ _ _ _ _ _ hq _ _ _ _ _ hW (lv_sub hl [0, 1, 2] rfl) hc hs
  · have hq := hq.2 c1
    refine lv_iload_n hx hb d_Br_edge_4 rfl (lv_at hl 1 rfl) ?_
    refine bw_aload_n hx hb d_Br_edge_5 rfl (lv_at hl 0 rfl) ?_
    obtain ⟨t2, hq⟩ := hq
    refine bw_getR hx hb ht in_Br hown hK hW rfl t2 (by decide) rfl 3 (by decide) rfl (ht _ m_62) (fun _ h => h) d_Br_edge_6 ?_
    obtain ⟨a3, ea3, hq⟩ := hq
    obtain ⟨t4, hq⟩ := hq
    refine bw_callV (As := []) (rest := [.int x1]) C hW ci_Al_size m_91 m_92 m_93 d_Br_edge_9 ea3 t4 (by decide) rfl rfl rfl hl.1 (by simp [bw_cat, cat_i, cat_j]) ⟨Nat.le_of_ble_eq_true rfl, Nat.le_of_ble_eq_true rfl⟩ ⟨Nat.le_trans (Nat.add_le_add_left (Nat.zero_le _) _) hc, Nat.le_trans (Nat.add_le_add_left (Nat.zero_le _) _) hs⟩ (c_Al_size hl0 _ _ hq) (fun _ _ _ _ _ _ h => h.elim) (fun v5 w6 H locs hv hW => ?_)
    obtain ⟨i11, rfl, hq⟩ := hv
    have hc := bw_bud0 hc
    have hs := bw_bud0 hs
    refine W.eq (g2 := F0 m 12 ls [.int i11, .int x1]) rfl ?_
    refine lv_icmp_lt (tgt := 25) hx hb d_Br_edge_12 (by decide) (fun c12 => ?_) (fun c12 => ?_)
    · have hq := hq.1 c12
      refine bw_aload_n hx hb d_Br_edge_25 rfl (lv_at hl 0 rfl) ?_
      obtain ⟨t13, hq⟩ := hq
      refine bw_getR hx hb ht in_Br hown hK hW rfl t13 (by decide) rfl 3 (by decide) rfl (ht _ m_62) (fun _ h => h) d_Br_edge_26 ?_
      refine lv_iload_n hx hb d_Br_edge_29 rfl (lv_at hl 1 rfl) ?_
      obtain ⟨a14, ea14, hq⟩ := hq
      obtain ⟨t15, hq⟩ := hq
      refine bw_callV (As := [.int x1]) (rest := []) C hW ci_Al_get m_99 m_100 m_101 d_Br_edge_30 ea14 t15 (by decide) rfl rfl rfl hl.1 (by decide) ⟨Nat.le_of_ble_eq_true rfl, Nat.le_of_ble_eq_true rfl⟩ ⟨Nat.le_trans (Nat.add_le_add_left (Nat.zero_le _) _) hc, Nat.le_trans (Nat.add_le_add_left (Nat.zero_le _) _) hs⟩ (c_Al_get hl0 _ _ _ hq) (fun _ _ _ _ _ _ h => h.elim) (fun v16 w17 H locs hv hW => ?_)
      obtain ⟨r22, rfl, hq⟩ := hv
      have hc := bw_bud0 hc
      have hs := bw_bud0 hs
      refine W.eq (g2 := F0 m 33 ls [va_rf r22]) rfl ?_
      obtain ⟨h23, hq⟩ := hq
      refine bw_cast C hW m_550 (cn := 1) rfl (by decide) (by decide +kernel) h23 d_Br_edge_33 ?_
      refine bw_astore_n (i := 3) (lv' := [(3, va_rf r22), (0, va_rf (some x0)), (1, .int x1), (2, .int x2)]) hx hb d_Br_edge_36 rfl hl (by decide) (by simp [bw_cat, cat_i, cat_j]) (fun ls hl => ?_)
      refine lv_iload_n hx hb d_Br_edge_37 rfl (lv_at hl 3 rfl) ?_
      by_cases c25 : x2.toInt < 0 ∨ 3 < x2.toInt
      · have hq := hq.2.2.2.2 c25
        refine lv_tableOut (tgt := 88) hx hb d_Br_edge_38 c25 (by decide) ?_
        obtain ⟨h34, h35, hq⟩ := hq
        exact bw_throw C hW rfl xa_Ia (ht _ m_126) (is := 158) (text := "nothing of an edge has this number") (by decide +kernel) hq hl.1 h34 h35 hc hs rfl rfl (Nat.le_of_ble_eq_true rfl) (by exact Nat.le_of_ble_eq_true rfl) d_Br_edge_88 d_Br_edge_91 d_Br_edge_92 d_Br_edge_94 d_Br_edge_97
      · have c252 : x2 = 0 ∨ x2 = 1 ∨ x2 = 2 ∨ x2 = 3 := bw_sw4 c25
        rcases c252 with c25 | c25 | c25 | c25
        · have hq := hq.1 c25
          refine lv_tableIn (tgt := 68) hx hb d_Br_edge_38 (by rw [c25]; decide) (by rw [c25]; decide) (by rw [c25]; rfl) (by decide) ?_
          refine bw_aload_n hx hb d_Br_edge_68 rfl (lv_at hl 0 rfl) ?_
          obtain ⟨a26, ea26, hq⟩ := hq
          obtain ⟨t27, hq⟩ := hq
          refine bw_getI hx hb ht in_Ed hown hK hW ea26 t27 (by decide) rfl 0 (by decide) rfl (ht _ m_595) (fun _ h => h) d_Br_edge_69 ?_
          exact bw_iret C hW ⟨_, rfl, hq⟩ d_Br_edge_72 (Nat.le_trans (Nat.le_add_right _ _) hc) (Nat.le_trans (Nat.le_add_right _ _) hs)
        · have hq := hq.2.1 c25
          refine lv_tableIn (tgt := 73) hx hb d_Br_edge_38 (by rw [c25]; decide) (by rw [c25]; decide) (by rw [c25]; rfl) (by decide) ?_
          refine bw_aload_n hx hb d_Br_edge_73 rfl (lv_at hl 0 rfl) ?_
          obtain ⟨a28, ea28, hq⟩ := hq
          obtain ⟨t29, hq⟩ := hq
          refine bw_getI hx hb ht in_Ed hown hK hW ea28 t29 (by decide) rfl 1 (by decide) rfl (ht _ m_597) (fun _ h => h) d_Br_edge_74 ?_
          exact bw_iret C hW ⟨_, rfl, hq⟩ d_Br_edge_77 (Nat.le_trans (Nat.le_add_right _ _) hc) (Nat.le_trans (Nat.le_add_right _ _) hs)
        · have hq := hq.2.2.1 c25
          refine lv_tableIn (tgt := 78) hx hb d_Br_edge_38 (by rw [c25]; decide) (by rw [c25]; decide) (by rw [c25]; rfl) (by decide) ?_
          refine bw_aload_n hx hb d_Br_edge_78 rfl (lv_at hl 0 rfl) ?_
          obtain ⟨a30, ea30, hq⟩ := hq
          obtain ⟨t31, hq⟩ := hq
          refine bw_getI hx hb ht in_Ed hown hK hW ea30 t31 (by decide) rfl 2 (by decide) rfl (ht _ m_599) (fun _ h => h) d_Br_edge_79 ?_
          exact bw_iret C hW ⟨_, rfl, hq⟩ d_Br_edge_82 (Nat.le_trans (Nat.le_add_right _ _) hc) (Nat.le_trans (Nat.le_add_right _ _) hs)
        · have hq := hq.2.2.2.1 c25
          refine lv_tableIn (tgt := 83) hx hb d_Br_edge_38 (by rw [c25]; decide) (by rw [c25]; decide) (by rw [c25]; rfl) (by decide) ?_
          refine bw_aload_n hx hb d_Br_edge_83 rfl (lv_at hl 0 rfl) ?_
          obtain ⟨a32, ea32, hq⟩ := hq
          obtain ⟨t33, hq⟩ := hq
          refine bw_getI hx hb ht in_Ed hown hK hW ea32 t33 (by decide) rfl 3 (by decide) rfl (ht _ m_601) (fun _ h => h) d_Br_edge_84 ?_
          exact bw_iret C hW ⟨_, rfl, hq⟩ d_Br_edge_87 (Nat.le_trans (Nat.le_add_right _ _) hc) (Nat.le_trans (Nat.le_add_right _ _) hs)
    · have hq := hq.2 c12
      exact k_Br_edge_15 C  _ _ _ _ _ _ hq _ _ _ _ _ hW (lv_sub hl [0, 1, 2] rfl) hc hs
theorem ci_Br_edge : CI n_Br_edge b_Br_edge 4 (some .int) 2 := ⟨m_651, m_1, by decide, by decide, by decide +kernel⟩
theorem c_Br_edge {l : Launch} {D : va_G} {AC : Nat → ClassId} {e0 mi : Nat} {Q : Int32 → Wd → Prop} {X : String → Wd → Prop} (hl0 : l.stackTraces = false) (x0 : Nat) (x1 : Int32) (x2 : Int32) (w : Wd) (nc ns : Nat) (hq : wp_Br_edge e0 mi x0 x1 x2 w nc ns Q X) : Ct l D AC e0 mi n_Br_edge (wy n_Br_edge b_Br_edge 4 (some .int)) 7 103 [va_rf (some x0), .int x1, .int x2] w nc ns (fun v w9 => ∃ r9 : Int32, v = some (.int r9) ∧ Q r9 w9) X :=
  Ct.of hl0 (by decide) (by simp [lg_sl, bw_cat, cat_i, cat_j]) (fun p e s m args below meth c A ls C hW hl => k_Br_edge_0 C x0 x1 x2 w nc ns hq s.heap [] 0 0 ls hW (by simpa [lv_args, bw_cat, cat_i, cat_j] using hl) (Nat.le_of_eq (Nat.zero_add _)) (Nat.le_of_eq (Nat.zero_add _)))
def wb_Br_slip_76 (e0 mi : Nat) (Q : Int32 → Wd → Prop) (X : String → Wd → Prop) (x0 : Nat) (x1 : Int32) (x2 : Int32) (x3 : Option Nat) (x4 : Option Nat) (w : Wd) (nc ns : Nat) : Prop :=
  ∃ a1 : Nat, x3 = some a1 ∧ (bw_is w a1 2 ∧ (Q (wI (sI w a1 7 ((wI w a1 7) - x2)) a1 7) (sI w a1 7 ((wI w a1 7) - x2))))
set_option maxHeartbeats 4000000 in
set_option maxRecDepth 100000 in
theorem k_Br_slip_76 {p : Program} {l : Launch} {e : Env} {s : State} {m : MethodId} {args : Array Value} {below : List Frame} {meth : Method} {c : Code} {D : va_G} {AC : Nat → ClassId} {e0 mi : Nat} {A : Nat → Prop} {mc ms : Nat} {Q : Int32 → Wd → Prop} {X : String → Wd → Prop} (C : Cx p l s m args meth c D AC e0 mi A n_Br_slip b_Br_slip 5 (some .int)) (x0 : Nat) (x1 : Int32) (x2 : Int32) (x3 : Option Nat) (x4 : Option Nat) (w : Wd) (nc ns : Nat) (hq : wb_Br_slip_76 e0 mi Q X x0 x1 x2 x3 x4 w nc ns) : ∀ (H : Heap) (locs : List Loc) (cells slots : Nat) (ls : Array Slot), HW D cls8 FTc AC A s.heap H locs w → lv_has ls 5 [(0, va_rf (some x0)), (1, .int x1), (2, .int x2), (3, va_rf x3), (4, va_rf x4)] → cells + nc ≤ mc → slots + ns ≤ ms → W p l e { frames := 8, cells := mc, slots := ms, locals := 125 } s m args below meth c H locs cells slots (vx_MQ below (QQ D AC A (fun v w9 => ∃ r9 : Int32, v = some (.int r9) ∧ Q r9 w9)) (XX D AC A X) args s mc ms A) (F0 m 76 ls []) := by
  obtain ⟨hl0, hx, hb, hr, ht, hown, hlocks, hnm, hml, hex, hK, hA, hZ, hV⟩ := id C
  intro H locs cells slots ls hW hl hc hs
  unfold wb_Br_slip_76 at hq
  refine bw_aload_n hx hb d_Br_slip_76 rfl (lv_at hl 3 rfl) ?_
  refine lv_dup hx hb d_Br_slip_77 (bw_cat _) ?_
  obtain ⟨a1, ea1, hq⟩ := hq
  obtain ⟨t2, hq⟩ := hq
  refine bw_getI hx hb ht in_It hown hK hW ea1 t2 (by decide) rfl 7 (by decide) rfl (ht _ m_460) (fun _ h => h) d_Br_slip_78 ?_
  refine lv_iload_n hx hb d_Br_slip_81 rfl (lv_at hl 2 rfl) ?_
  refine lv_isub hx hb d_Br_slip_82 ?_
  refine bw_putI hx hb ht in_It y_It yk_It nm_It hown hK hW ea1 t2 (by decide) rfl 7 (by decide) rfl (ht _ m_460) (fun _ h => h) (Or.inl rfl) rfl rfl d_Br_slip_83 (fun H locs hW => ?_)
  refine bw_aload_n hx hb d_Br_slip_86 rfl (lv_at hl 3 rfl) ?_
  refine bw_getI hx hb ht in_It hown hK hW ea1 t2 (by decide) rfl 7 (by decide) rfl (ht _ m_460) (fun _ h => h) d_Br_slip_87 ?_
  exact bw_iret C hW ⟨_, rfl, hq⟩ d_Br_slip_90 (Nat.le_trans (Nat.le_add_right _ _) hc) (Nat.le_trans (Nat.le_add_right _ _) hs)
def wp_Br_slip (e0 mi : Nat) (x0 : Nat) (x1 : Int32) (x2 : Int32) (w : Wd) (nc ns : Nat) (Q : Int32 → Wd → Prop) (X : String → Wd → Prop) : Prop :=
  bw_is w x0 5 ∧ (∃ k4 k5 : Nat, k4 ≤ nc ∧ k5 ≤ ns ∧ wp_Br_findItem e0 mi x0 x1 w k4 k5 (fun r8 w3 => ∃ k11 k12 : Nat, k11 ≤ (nc - k4) ∧ k12 ≤ (ns - k5) ∧ wp_Br_checkRange e0 mi x2 (1 : Int32) (1000 : Int32) w3 k11 k12 (fun w10 => ∃ k18 k19 : Nat, k18 ≤ ((nc - k4) - k11) ∧ k19 ≤ ((ns - k5) - k12) ∧ wp_Br_checkOnBelt e0 mi r8 w10 k18 k19 (fun w17 => ∃ a23 : Nat, r8 = some a23 ∧ (bw_is w17 a23 2 ∧ ((x2 ≤ (wI w17 a23 7) → (∀ r26 : Option Nat, r26 = wR w17 a23 5 → ((r26 = none → (wb_Br_slip_76 e0 mi Q X x0 x1 x2 r8 r26 w17 (((nc - k4) - k11) - k18) (((ns - k5) - k12) - k19))) ∧ (¬ r26 = none → (wp_It_rear e0 mi a23 w17 (fun i34 w29 => ∃ a35 : Nat, r26 = some a35 ∧ (bw_is w29 a35 2 ∧ (bw_is w29 x0 5 ∧ (((wI w29 x0 6) ≤ ((i34 - x2) - (wI w29 a35 7)) → (wb_Br_slip_76 e0 mi Q X x0 x1 x2 r8 r26 w29 (((nc - k4) - k11) - k18) (((ns - k5) - k12) - k19))) ∧ (¬ (wI w29 x0 6) ≤ ((i34 - x2) - (wI w29 a35 7)) → (1 ≤ (((nc - k4) - k11) - k18) ∧ 6 ≤ (((ns - k5) - k12) - k19) ∧ X "java/lang/IllegalStateException" w29))))))))))) ∧ (¬ x2 ≤ (wI w17 a23 7) → (1 ≤ (((nc - k4) - k11) - k18) ∧ 6 ≤ (((ns - k5) - k12) - k19) ∧ X "java/lang/IllegalStateException" w17))))) X) X) X)
set_option maxHeartbeats 4000000 in
set_option maxRecDepth 100000 in
theorem k_Br_slip_0 {p : Program} {l : Launch} {e : Env} {s : State} {m : MethodId} {args : Array Value} {below : List Frame} {meth : Method} {c : Code} {D : va_G} {AC : Nat → ClassId} {e0 mi : Nat} {A : Nat → Prop} {mc ms : Nat} {Q : Int32 → Wd → Prop} {X : String → Wd → Prop} (C : Cx p l s m args meth c D AC e0 mi A n_Br_slip b_Br_slip 5 (some .int)) (x0 : Nat) (x1 : Int32) (x2 : Int32) (w : Wd) (nc ns : Nat) (hq : wp_Br_slip e0 mi x0 x1 x2 w nc ns Q X) : ∀ (H : Heap) (locs : List Loc) (cells slots : Nat) (ls : Array Slot), HW D cls8 FTc AC A s.heap H locs w → lv_has ls 5 [(0, va_rf (some x0)), (1, .int x1), (2, .int x2)] → cells + nc ≤ mc → slots + ns ≤ ms → W p l e { frames := 8, cells := mc, slots := ms, locals := 125 } s m args below meth c H locs cells slots (vx_MQ below (QQ D AC A (fun v w9 => ∃ r9 : Int32, v = some (.int r9) ∧ Q r9 w9)) (XX D AC A X) args s mc ms A) (F0 m 0 ls []) := by
  obtain ⟨hl0, hx, hb, hr, ht, hown, hlocks, hnm, hml, hex, hK, hA, hZ, hV⟩ := id C
  intro H locs cells slots ls hW hl hc hs
  unfold wp_Br_slip at hq
  refine bw_aload_n hx hb d_Br_slip_0 rfl (lv_at hl 0 rfl) ?_
  refine lv_iload_n hx hb d_Br_slip_1 rfl (lv_at hl 1 rfl) ?_
  obtain ⟨t1, hq⟩ := hq
  obtain ⟨k4, k5, h6, h7, hq⟩ := hq
  refine bw_callV (As := [.int x1]) (rest := []) C hW ci_Br_findItem m_511 m_513 sel_Br_findItem d_Br_slip_2 rfl t1 (by decide) rfl rfl rfl hl.1 (by decide) ⟨Nat.le_of_ble_eq_true rfl, Nat.le_of_ble_eq_true rfl⟩ ⟨Nat.le_trans (Nat.add_le_add_left h6 _) hc, Nat.le_trans (Nat.add_le_add_left h7 _) hs⟩ (c_Br_findItem hl0 _ _ _ _ _ hq) (fun _ _ _ _ _ _ h hW h1 h2 h3 => bw_up C (fun _ _ z => z) h hW h1 h2 h3 (Nat.le_trans (Nat.add_le_add_left h6 _) hc) (Nat.le_trans (Nat.add_le_add_left h7 _) hs)) (fun v2 w3 H locs hv hW => ?_)
  obtain ⟨r8, rfl, hq⟩ := hv
  have hc := bw_bud hc h6
  have hs := bw_bud hs h7
  refine W.eq (g2 := F0 m 5 ls [va_rf r8]) rfl ?_
  refine bw_astore_n (i := 3) (lv' := [(3, va_rf r8), (0, va_rf (some x0)), (1, .int x1), (2, .int x2)]) hx hb d_Br_slip_5 rfl hl (by decide) (by simp [bw_cat, cat_i, cat_j]) (fun ls hl => ?_)
  refine lv_iload_n hx hb d_Br_slip_6 rfl (lv_at hl 3 rfl) ?_
  refine lv_iconst (v := 1) hx hb d_Br_slip_7 (by decide) ?_
  refine lv_sipush (v := 1000) hx hb d_Br_slip_8 (by decide) ?_
  obtain ⟨k11, k12, h13, h14, hq⟩ := hq
  refine bw_callS (As := [.int x2, .int (1 : Int32), .int (1000 : Int32)]) (rest := []) C hW ci_Br_checkRange m_123 m_124 d_Br_slip_11 rfl rfl hl.1 (by decide) ⟨Nat.le_of_ble_eq_true rfl, Nat.le_of_ble_eq_true rfl⟩ ⟨Nat.le_trans (Nat.add_le_add_left h13 _) hc, Nat.le_trans (Nat.add_le_add_left h14 _) hs⟩ (c_Br_checkRange hl0 _ _ _ _ _ _ hq) (fun _ _ _ _ _ _ h hW h1 h2 h3 => bw_up C (fun _ _ z => z) h hW h1 h2 h3 (Nat.le_trans (Nat.add_le_add_left h13 _) hc) (Nat.le_trans (Nat.add_le_add_left h14 _) hs)) (fun v9 w10 H locs hv hW => ?_)
  obtain ⟨rfl, hq⟩ := hv
  have hc := bw_bud hc h13
  have hs := bw_bud hs h14
  refine W.eq (g2 := F0 m 14 ls []) rfl ?_
  refine bw_aload_n hx hb d_Br_slip_14 rfl (lv_at hl 0 rfl) ?_
  obtain ⟨k18, k19, h20, h21, hq⟩ := hq
  refine bw_callS (As := [va_rf r8]) (rest := []) C hW ci_Br_checkOnBelt m_516 m_517 d_Br_slip_15 rfl rfl hl.1 (by decide) ⟨Nat.le_of_ble_eq_true rfl, Nat.le_of_ble_eq_true rfl⟩ ⟨Nat.le_trans (Nat.add_le_add_left h20 _) hc, Nat.le_trans (Nat.add_le_add_left h21 _) hs⟩ (c_Br_checkOnBelt hl0 _ _ _ _ hq) (fun _ _ _ _ _ _ h hW h1 h2 h3 => bw_up C (fun _ _ z => z) h hW h1 h2 h3 (Nat.le_trans (Nat.add_le_add_left h20 _) hc) (Nat.le_trans (Nat.add_le_add_left h21 _) hs)) (fun v16 w17 H locs hv hW => ?_)
  obtain ⟨rfl, hq⟩ := hv
  have hc := bw_bud hc h20
  have hs := bw_bud hs h21
  refine W.eq (g2 := F0 m 18 ls []) rfl ?_
  refine bw_aload_n hx hb d_Br_slip_18 rfl (lv_at hl 0 rfl) ?_
  obtain ⟨a23, ea23, hq⟩ := hq
  obtain ⟨t24, hq⟩ := hq
  refine bw_getI hx hb ht in_It hown hK hW ea23 t24 (by decide) rfl 7 (by decide) rfl (ht _ m_460) (fun _ h => h) d_Br_slip_19 ?_
  refine lv_iload_n hx hb d_Br_slip_22 rfl (lv_at hl 3 rfl) ?_
  refine lv_icmp_ge (tgt := 36) hx hb d_Br_slip_23 (by decide) (fun c25 => ?_) (fun c25 => ?_)
  · have hq := hq.1 c25
    refine bw_aload_n hx hb d_Br_slip_36 rfl (lv_at hl 0 rfl) ?_
    refine bw_getR hx hb ht in_It hown hK hW ea23 t24 (by decide) rfl 5 (by decide) rfl (ht _ m_455) (fun _ h => h) d_Br_slip_37 ?_
    refine bw_topr (fun r26 er26 => ?_)
    have hq := hq r26 er26
    refine bw_astore (lv' := [(4, va_rf r26), (3, va_rf r8), (0, va_rf (some x0)), (1, .int x1), (2, .int x2)]) hx hb d_Br_slip_40 hl (by decide) (by simp [bw_cat, cat_i, cat_j]) (fun ls hl => ?_)
    refine bw_aload hx hb d_Br_slip_42 (lv_at hl 0 rfl) ?_
    refine bw_ifnull (tgt := 76) hx hb d_Br_slip_44 (by decide) (fun c27 => ?_) (fun c27 => ?_)
    · have hq := hq.1 c27
      exact k_Br_slip_76 C  _ _ _ _ _ _ _ _ hq _ _ _ _ _ hW (lv_sub hl [2, 3, 4, 1, 0] rfl) hc hs
    · have hq := hq.2 c27
      refine bw_aload_n hx hb d_Br_slip_47 rfl (lv_at hl 1 rfl) ?_
      refine bw_callV (As := []) (rest := []) C hW ci_It_rear m_432 m_433 m_434 d_Br_slip_48 ea23 t24 (by decide) rfl rfl rfl hl.1 (by decide) ⟨Nat.le_of_ble_eq_true rfl, Nat.le_of_ble_eq_true rfl⟩ ⟨Nat.le_trans (Nat.add_le_add_left (Nat.zero_le _) _) hc, Nat.le_trans (Nat.add_le_add_left (Nat.zero_le _) _) hs⟩ (c_It_rear hl0 _ _ hq) (fun _ _ _ _ _ _ h => h.elim) (fun v28 w29 H locs hv hW => ?_)
      obtain ⟨i34, rfl, hq⟩ := hv
      have hc := bw_bud0 hc
      have hs := bw_bud0 hs
      refine W.eq (g2 := F0 m 51 ls [.int i34]) rfl ?_
      refine lv_iload_n hx hb d_Br_slip_51 rfl (lv_at hl 4 rfl) ?_
      refine lv_isub hx hb d_Br_slip_52 ?_
      refine bw_aload hx hb d_Br_slip_53 (lv_at hl 0 rfl) ?_
      obtain ⟨a35, ea35, hq⟩ := hq
      obtain ⟨t36, hq⟩ := hq
      refine bw_getI hx hb ht in_It hown hK hW ea35 t36 (by decide) rfl 7 (by decide) rfl (ht _ m_460) (fun _ h => h) d_Br_slip_55 ?_
      refine lv_isub hx hb d_Br_slip_58 ?_
      refine bw_aload_n hx hb d_Br_slip_59 rfl (lv_at hl 2 rfl) ?_
      obtain ⟨t37, hq⟩ := hq
      refine bw_getI hx hb ht in_Br hown hK hW rfl t37 (by decide) rfl 6 (by decide) rfl (ht _ m_65) (fun _ h => h) d_Br_slip_60 ?_
      refine lv_icmp_ge (tgt := 76) hx hb d_Br_slip_63 (by decide) (fun c38 => ?_) (fun c38 => ?_)
      · have hq := hq.1 c38
        exact k_Br_slip_76 C  _ _ _ _ _ _ _ _ hq _ _ _ _ _ hW (lv_sub hl [2, 3, 4, 1, 0] rfl) hc hs
      · have hq := hq.2 c38
        obtain ⟨h39, h40, hq⟩ := hq
        exact bw_throw C hW rfl xa_Is (ht _ m_519) (is := 175) (text := "the item behind would be too near") (by decide +kernel) hq hl.1 h39 h40 hc hs rfl rfl (Nat.le_of_ble_eq_true rfl) (by exact Nat.le_of_ble_eq_true rfl) d_Br_slip_66 d_Br_slip_69 d_Br_slip_70 d_Br_slip_72 d_Br_slip_75
  · have hq := hq.2 c25
    obtain ⟨h41, h42, hq⟩ := hq
    exact bw_throw C hW rfl xa_Is (ht _ m_519) (is := 165) (text := "the item would be before the start") (by decide +kernel) hq hl.1 h41 h42 hc hs rfl rfl (Nat.le_of_ble_eq_true rfl) (by exact Nat.le_of_ble_eq_true rfl) d_Br_slip_26 d_Br_slip_29 d_Br_slip_30 d_Br_slip_32 d_Br_slip_35
theorem ci_Br_slip : CI n_Br_slip b_Br_slip 5 (some .int) 2 := ⟨m_660, m_1, by decide, by decide, by decide +kernel⟩
theorem c_Br_slip {l : Launch} {D : va_G} {AC : Nat → ClassId} {e0 mi : Nat} {Q : Int32 → Wd → Prop} {X : String → Wd → Prop} (hl0 : l.stackTraces = false) (x0 : Nat) (x1 : Int32) (x2 : Int32) (w : Wd) (nc ns : Nat) (hq : wp_Br_slip e0 mi x0 x1 x2 w nc ns Q X) : Ct l D AC e0 mi n_Br_slip (wy n_Br_slip b_Br_slip 5 (some .int)) 8 125 [va_rf (some x0), .int x1, .int x2] w nc ns (fun v w9 => ∃ r9 : Int32, v = some (.int r9) ∧ Q r9 w9) X :=
  Ct.of hl0 (by decide) (by simp [lg_sl, bw_cat, cat_i, cat_j]) (fun p e s m args below meth c A ls C hW hl => k_Br_slip_0 C x0 x1 x2 w nc ns hq s.heap [] 0 0 ls hW (by simpa [lv_args, bw_cat, cat_i, cat_j] using hl) (Nat.le_of_eq (Nat.zero_add _)) (Nat.le_of_eq (Nat.zero_add _)))
def wp_Br_take (e0 mi : Nat) (x0 : Nat) (x1 : Int32) (w : Wd) (nc ns : Nat) (Q : Wd → Prop) (X : String → Wd → Prop) : Prop :=
  bw_is w x0 5 ∧ (∃ k4 k5 : Nat, k4 ≤ nc ∧ k5 ≤ ns ∧ wp_Br_findItem e0 mi x0 x1 w k4 k5 (fun r8 w3 => ∃ k11 k12 : Nat, k11 ≤ (nc - k4) ∧ k12 ≤ (ns - k5) ∧ wp_Br_checkOnBelt e0 mi r8 w3 k11 k12 (fun w10 => ∃ a16 : Nat, r8 = some a16 ∧ (bw_is w10 a16 2 ∧ (wp_It_leave e0 mi a16 (2 : Int32) w10 (fun w19 => Q w19)))) X) X)
set_option maxHeartbeats 4000000 in
set_option maxRecDepth 100000 in
theorem k_Br_take_0 {p : Program} {l : Launch} {e : Env} {s : State} {m : MethodId} {args : Array Value} {below : List Frame} {meth : Method} {c : Code} {D : va_G} {AC : Nat → ClassId} {e0 mi : Nat} {A : Nat → Prop} {mc ms : Nat} {Q : Wd → Prop} {X : String → Wd → Prop} (C : Cx p l s m args meth c D AC e0 mi A n_Br_take b_Br_take 3 none) (x0 : Nat) (x1 : Int32) (w : Wd) (nc ns : Nat) (hq : wp_Br_take e0 mi x0 x1 w nc ns Q X) : ∀ (H : Heap) (locs : List Loc) (cells slots : Nat) (ls : Array Slot), HW D cls8 FTc AC A s.heap H locs w → lv_has ls 3 [(0, va_rf (some x0)), (1, .int x1)] → cells + nc ≤ mc → slots + ns ≤ ms → W p l e { frames := 8, cells := mc, slots := ms, locals := 124 } s m args below meth c H locs cells slots (vx_MQ below (QQ D AC A (fun v w9 => v = none ∧ Q w9)) (XX D AC A X) args s mc ms A) (F0 m 0 ls []) := by
  obtain ⟨hl0, hx, hb, hr, ht, hown, hlocks, hnm, hml, hex, hK, hA, hZ, hV⟩ := id C
  intro H locs cells slots ls hW hl hc hs
  unfold wp_Br_take at hq
  refine bw_aload_n hx hb d_Br_take_0 rfl (lv_at hl 0 rfl) ?_
  refine lv_iload_n hx hb d_Br_take_1 rfl (lv_at hl 1 rfl) ?_
  obtain ⟨t1, hq⟩ := hq
  obtain ⟨k4, k5, h6, h7, hq⟩ := hq
  refine bw_callV (As := [.int x1]) (rest := []) C hW ci_Br_findItem m_511 m_513 sel_Br_findItem d_Br_take_2 rfl t1 (by decide) rfl rfl rfl hl.1 (by decide) ⟨Nat.le_of_ble_eq_true rfl, Nat.le_of_ble_eq_true rfl⟩ ⟨Nat.le_trans (Nat.add_le_add_left h6 _) hc, Nat.le_trans (Nat.add_le_add_left h7 _) hs⟩ (c_Br_findItem hl0 _ _ _ _ _ hq) (fun _ _ _ _ _ _ h hW h1 h2 h3 => bw_up C (fun _ _ z => z) h hW h1 h2 h3 (Nat.le_trans (Nat.add_le_add_left h6 _) hc) (Nat.le_trans (Nat.add_le_add_left h7 _) hs)) (fun v2 w3 H locs hv hW => ?_)
  obtain ⟨r8, rfl, hq⟩ := hv
  have hc := bw_bud hc h6
  have hs := bw_bud hs h7
  refine W.eq (g2 := F0 m 5 ls [va_rf r8]) rfl ?_
  refine bw_astore_n (i := 2) (lv' := [(2, va_rf r8), (0, va_rf (some x0)), (1, .int x1)]) hx hb d_Br_take_5 rfl hl (by decide) (by simp [bw_cat, cat_i, cat_j]) (fun ls hl => ?_)
  refine bw_aload_n hx hb d_Br_take_6 rfl (lv_at hl 0 rfl) ?_
  obtain ⟨k11, k12, h13, h14, hq⟩ := hq
  refine bw_callS (As := [va_rf r8]) (rest := []) C hW ci_Br_checkOnBelt m_516 m_517 d_Br_take_7 rfl rfl hl.1 (by decide) ⟨Nat.le_of_ble_eq_true rfl, Nat.le_of_ble_eq_true rfl⟩ ⟨Nat.le_trans (Nat.add_le_add_left h13 _) hc, Nat.le_trans (Nat.add_le_add_left h14 _) hs⟩ (c_Br_checkOnBelt hl0 _ _ _ _ hq) (fun _ _ _ _ _ _ h hW h1 h2 h3 => bw_up C (fun _ _ z => z) h hW h1 h2 h3 (Nat.le_trans (Nat.add_le_add_left h13 _) hc) (Nat.le_trans (Nat.add_le_add_left h14 _) hs)) (fun v9 w10 H locs hv hW => ?_)
  obtain ⟨rfl, hq⟩ := hv
  have hc := bw_bud hc h13
  have hs := bw_bud hs h14
  refine W.eq (g2 := F0 m 10 ls []) rfl ?_
  refine bw_aload_n hx hb d_Br_take_10 rfl (lv_at hl 0 rfl) ?_
  refine lv_iconst (v := 2) hx hb d_Br_take_11 (by decide) ?_
  obtain ⟨a16, ea16, hq⟩ := hq
  obtain ⟨t17, hq⟩ := hq
  refine bw_callV (As := [.int (2 : Int32)]) (rest := []) C hW ci_It_leave m_581 m_582 m_583 d_Br_take_12 ea16 t17 (by decide) rfl rfl rfl hl.1 (by decide) ⟨Nat.le_of_ble_eq_true rfl, Nat.le_of_ble_eq_true rfl⟩ ⟨Nat.le_trans (Nat.add_le_add_left (Nat.zero_le _) _) hc, Nat.le_trans (Nat.add_le_add_left (Nat.zero_le _) _) hs⟩ (c_It_leave hl0 _ _ _ hq) (fun _ _ _ _ _ _ h => h.elim) (fun v18 w19 H locs hv hW => ?_)
  obtain ⟨rfl, hq⟩ := hv
  have hc := bw_bud0 hc
  have hs := bw_bud0 hs
  refine W.eq (g2 := F0 m 15 ls []) rfl ?_
  exact bw_vret C hW ⟨rfl, hq⟩ d_Br_take_15 (Nat.le_trans (Nat.le_add_right _ _) hc) (Nat.le_trans (Nat.le_add_right _ _) hs)
theorem ci_Br_take : CI n_Br_take b_Br_take 3 none 1 := ⟨m_669, m_1, by decide, by decide, by decide +kernel⟩
theorem c_Br_take {l : Launch} {D : va_G} {AC : Nat → ClassId} {e0 mi : Nat} {Q : Wd → Prop} {X : String → Wd → Prop} (hl0 : l.stackTraces = false) (x0 : Nat) (x1 : Int32) (w : Wd) (nc ns : Nat) (hq : wp_Br_take e0 mi x0 x1 w nc ns Q X) : Ct l D AC e0 mi n_Br_take (wy n_Br_take b_Br_take 3 none) 8 124 [va_rf (some x0), .int x1] w nc ns (fun v w9 => v = none ∧ Q w9) X :=
  Ct.of hl0 (by decide) (by simp [lg_sl, bw_cat, cat_i, cat_j]) (fun p e s m args below meth c A ls C hW hl => k_Br_take_0 C x0 x1 w nc ns hq s.heap [] 0 0 ls hW (by simpa [lv_args, bw_cat, cat_i, cat_j] using hl) (Nat.le_of_eq (Nat.zero_add _)) (Nat.le_of_eq (Nat.zero_add _)))
def wb_Br_clean_58 (e0 mi : Nat) (Q : Int32 → Wd → Prop) (X : String → Wd → Prop) (x0 : Nat) (x1 : Int32) (x2 : Option Nat) (x3 : Int32) (x4 : Int32) (w : Wd) (nc ns : Nat) : Prop :=
  Q x3 w
set_option maxHeartbeats 4000000 in
set_option maxRecDepth 100000 in
theorem k_Br_clean_58 {p : Program} {l : Launch} {e : Env} {s : State} {m : MethodId} {args : Array Value} {below : List Frame} {meth : Method} {c : Code} {D : va_G} {AC : Nat → ClassId} {e0 mi : Nat} {A : Nat → Prop} {mc ms : Nat} {Q : Int32 → Wd → Prop} {X : String → Wd → Prop} (C : Cx p l s m args meth c D AC e0 mi A n_Br_clean b_Br_clean 5 (some .int)) (x0 : Nat) (x1 : Int32) (x2 : Option Nat) (x3 : Int32) (x4 : Int32) (w : Wd) (nc ns : Nat) (hq : wb_Br_clean_58 e0 mi Q X x0 x1 x2 x3 x4 w nc ns) : ∀ (H : Heap) (locs : List Loc) (cells slots : Nat) (ls : Array Slot), HW D cls8 FTc AC A s.heap H locs w → lv_has ls 5 [(0, va_rf (some x0)), (1, .int x1), (2, va_rf x2), (3, .int x3), (4, .int x4)] → cells + nc ≤ mc → slots + ns ≤ ms → W p l e { frames := 8, cells := mc, slots := ms, locals := 124 } s m args below meth c H locs cells slots (vx_MQ below (QQ D AC A (fun v w9 => ∃ r9 : Int32, v = some (.int r9) ∧ Q r9 w9)) (XX D AC A X) args s mc ms A) (F0 m 58 ls []) := by
  obtain ⟨hl0, hx, hb, hr, ht, hown, hlocks, hnm, hml, hex, hK, hA, hZ, hV⟩ := id C
  intro H locs cells slots ls hW hl hc hs
  unfold wb_Br_clean_58 at hq
  refine lv_iload_n hx hb d_Br_clean_58 rfl (lv_at hl 3 rfl) ?_
  exact bw_iret C hW ⟨_, rfl, hq⟩ d_Br_clean_59 (Nat.le_trans (Nat.le_add_right _ _) hc) (Nat.le_trans (Nat.le_add_right _ _) hs)
def wb_Br_clean_31 (e0 mi : Nat) (Q : Int32 → Wd → Prop) (X : String → Wd → Prop) : Nat → Nat → Int32 → Option Nat → Int32 → Int32 → Wd → Nat → Nat → Prop
  | 0, _, _, _, _, _, _, _, _ => False
  | n + 1, x0, x1, x2, x3, x4, w, nc, ns => (x3 ≤ x4 → (wb_Br_clean_58 e0 mi Q X x0 x1 x2 x3 x4 w nc ns)) ∧ (¬ x3 ≤ x4 → (∃ a2 : Nat, x2 = some a2 ∧ (bw_is w a2 0 ∧ (((wR w a2 4) = none → (wb_Br_clean_58 e0 mi Q X x0 x1 x2 x3 x4 w nc ns)) ∧ (¬ (wR w a2 4) = none → (∃ a5 : Nat, (wR w a2 4) = some a5 ∧ (bw_is w a5 2 ∧ (wp_It_leave e0 mi a5 (2 : Int32) w (fun w8 => ∀ i14 : Int32, i14 = x4 + 1 → ((wb_Br_clean_31 e0 mi Q X n) x0 x1 x2 x3 i14 w8 nc ns))))))))))
set_option maxHeartbeats 4000000 in
set_option maxRecDepth 100000 in
theorem k_Br_clean_31 {p : Program} {l : Launch} {e : Env} {s : State} {m : MethodId} {args : Array Value} {below : List Frame} {meth : Method} {c : Code} {D : va_G} {AC : Nat → ClassId} {e0 mi : Nat} {A : Nat → Prop} {mc ms : Nat} {Q : Int32 → Wd → Prop} {X : String → Wd → Prop} (C : Cx p l s m args meth c D AC e0 mi A n_Br_clean b_Br_clean 5 (some .int)) : ∀ (n : Nat) (x0 : Nat) (x1 : Int32) (x2 : Option Nat) (x3 : Int32) (x4 : Int32) (w : Wd) (nc ns : Nat), wb_Br_clean_31 e0 mi Q X n x0 x1 x2 x3 x4 w nc ns → ∀ (H : Heap) (locs : List Loc) (cells slots : Nat) (ls : Array Slot), HW D cls8 FTc AC A s.heap H locs w → lv_has ls 5 [(0, va_rf (some x0)), (1, .int x1), (2, va_rf x2), (3, .int x3), (4, .int x4)] → cells + nc ≤ mc → slots + ns ≤ ms → W p l e { frames := 8, cells := mc, slots := ms, locals := 124 } s m args below meth c H locs cells slots (vx_MQ below (QQ D AC A (fun v w9 => ∃ r9 : Int32, v = some (.int r9) ∧ Q r9 w9)) (XX D AC A X) args s mc ms A) (F0 m 31 ls []) := by
  obtain ⟨hl0, hx, hb, hr, ht, hown, hlocks, hnm, hml, hex, hK, hA, hZ, hV⟩ := id C
  intro n
  induction n with
  | zero =>
    intro x0 x1 x2 x3 x4 w nc ns hq
    exact hq.elim
  | succ n ih =>
    intro x0 x1 x2 x3 x4 w nc ns hq H locs cells slots ls hW hl hc hs
    have hK31 := ih
    unfold wb_Br_clean_31 at hq
    refine lv_iload hx hb d_Br_clean_31 (lv_at hl 4 rfl) ?_
    refine lv_iload_n hx hb d_Br_clean_33 rfl (lv_at hl 3 rfl) ?_
    refine lv_icmp_ge (tgt := 58) hx hb d_Br_clean_34 (by decide) (fun c1 => ?_) (fun c1 => ?_)
    · have hq := hq.1 c1
      exact k_Br_clean_58 C  _ _ _ _ _ _ _ _ hq _ _ _ _ _ hW (lv_sub hl [0, 1, 2, 3, 4] rfl) hc hs
    · have hq := hq.2 c1
      refine bw_aload_n hx hb d_Br_clean_37 rfl (lv_at hl 2 rfl) ?_
      obtain ⟨a2, ea2, hq⟩ := hq
      obtain ⟨t3, hq⟩ := hq
      refine bw_getR hx hb ht in_Bt hown hK hW ea2 t3 (by decide) rfl 4 (by decide) rfl (ht _ m_248) (fun _ h => h) d_Br_clean_38 ?_
      refine bw_ifnull (tgt := 58) hx hb d_Br_clean_41 (by decide) (fun c4 => ?_) (fun c4 => ?_)
      · have hq := hq.1 c4
        exact k_Br_clean_58 C  _ _ _ _ _ _ _ _ hq _ _ _ _ _ hW (lv_sub hl [0, 1, 2, 3, 4] rfl) hc hs
      · have hq := hq.2 c4
        refine bw_aload_n hx hb d_Br_clean_44 rfl (lv_at hl 2 rfl) ?_
        refine bw_getR hx hb ht in_Bt hown hK hW ea2 t3 (by decide) rfl 4 (by decide) rfl (ht _ m_248) (fun _ h => h) d_Br_clean_45 ?_
        refine lv_iconst (v := 2) hx hb d_Br_clean_48 (by decide) ?_
        obtain ⟨a5, ea5, hq⟩ := hq
        obtain ⟨t6, hq⟩ := hq
        refine bw_callV (As := [.int (2 : Int32)]) (rest := []) C hW ci_It_leave m_581 m_582 m_583 d_Br_clean_49 ea5 t6 (by decide) rfl rfl rfl hl.1 (by decide) ⟨Nat.le_of_ble_eq_true rfl, Nat.le_of_ble_eq_true rfl⟩ ⟨Nat.le_trans (Nat.add_le_add_left (Nat.zero_le _) _) hc, Nat.le_trans (Nat.add_le_add_left (Nat.zero_le _) _) hs⟩ (c_It_leave hl0 _ _ _ hq) (fun _ _ _ _ _ _ h => h.elim) (fun v7 w8 H locs hv hW => ?_)
        obtain ⟨rfl, hq⟩ := hv
        have hc := bw_bud0 hc
        have hs := bw_bud0 hs
        refine W.eq (g2 := F0 m 52 ls []) rfl ?_
        obtain ⟨i14, ei14⟩ : ∃ y : Int32, y = x4 + 1 := ⟨_, rfl⟩
        have hq := hq i14 ei14
        refine lv_iinc (v := i14) (lv' := [(4, .int i14), (0, va_rf (some x0)), (1, .int x1), (2, va_rf x2), (3, .int x3)]) hx hb d_Br_clean_52 hl (k := 4) rfl (by rw [ei14]; rfl) (by decide) (by simp [bw_cat, cat_i, cat_j]) (fun ls hl => ?_)
        refine lv_goto (tgt := 31) hx hb d_Br_clean_55 (by decide) ?_
        exact hK31 _ _ _ _ _ _ _ _ hq _ _ _ _ _ hW (lv_sub hl [1, 2, 3, 4, 0] rfl) hc hs
def wp_Br_clean (e0 mi : Nat) (x0 : Nat) (x1 : Int32) (w : Wd) (nc ns : Nat) (Q : Int32 → Wd → Prop) (X : String → Wd → Prop) : Prop :=
  bw_is w x0 5 ∧ (∃ k4 k5 : Nat, k4 ≤ nc ∧ k5 ≤ ns ∧ wp_Br_findBelt e0 mi x0 x1 w k4 k5 (fun r8 w3 => ∃ a9 : Nat, r8 = some a9 ∧ (bw_is w3 a9 0 ∧ (((wI w3 a9 3) = 0 → (∀ i12 : Int32, i12 = wI w3 a9 6 → (∃ n13 : Nat, wb_Br_clean_31 e0 mi Q X n13 x0 x1 r8 i12 (0 : Int32) w3 (nc - k4) (ns - k5)))) ∧ (¬ (wI w3 a9 3) = 0 → (1 ≤ (nc - k4) ∧ 6 ≤ (ns - k5) ∧ X "java/lang/IllegalStateException" w3))))) X)
set_option maxHeartbeats 4000000 in
set_option maxRecDepth 100000 in
theorem k_Br_clean_0 {p : Program} {l : Launch} {e : Env} {s : State} {m : MethodId} {args : Array Value} {below : List Frame} {meth : Method} {c : Code} {D : va_G} {AC : Nat → ClassId} {e0 mi : Nat} {A : Nat → Prop} {mc ms : Nat} {Q : Int32 → Wd → Prop} {X : String → Wd → Prop} (C : Cx p l s m args meth c D AC e0 mi A n_Br_clean b_Br_clean 5 (some .int)) (x0 : Nat) (x1 : Int32) (w : Wd) (nc ns : Nat) (hq : wp_Br_clean e0 mi x0 x1 w nc ns Q X) : ∀ (H : Heap) (locs : List Loc) (cells slots : Nat) (ls : Array Slot), HW D cls8 FTc AC A s.heap H locs w → lv_has ls 5 [(0, va_rf (some x0)), (1, .int x1)] → cells + nc ≤ mc → slots + ns ≤ ms → W p l e { frames := 8, cells := mc, slots := ms, locals := 124 } s m args below meth c H locs cells slots (vx_MQ below (QQ D AC A (fun v w9 => ∃ r9 : Int32, v = some (.int r9) ∧ Q r9 w9)) (XX D AC A X) args s mc ms A) (F0 m 0 ls []) := by
  obtain ⟨hl0, hx, hb, hr, ht, hown, hlocks, hnm, hml, hex, hK, hA, hZ, hV⟩ := id C
  intro H locs cells slots ls hW hl hc hs
  unfold wp_Br_clean at hq
  refine bw_aload_n hx hb d_Br_clean_0 rfl (lv_at hl 0 rfl) ?_
  refine lv_iload_n hx hb d_Br_clean_1 rfl (lv_at hl 1 rfl) ?_
  obtain ⟨t1, hq⟩ := hq
  obtain ⟨k4, k5, h6, h7, hq⟩ := hq
  refine bw_callV (As := [.int x1]) (rest := []) C hW ci_Br_findBelt m_342 m_344 sel_Br_findBelt d_Br_clean_2 rfl t1 (by decide) rfl rfl rfl hl.1 (by decide) ⟨Nat.le_of_ble_eq_true rfl, Nat.le_of_ble_eq_true rfl⟩ ⟨Nat.le_trans (Nat.add_le_add_left h6 _) hc, Nat.le_trans (Nat.add_le_add_left h7 _) hs⟩ (c_Br_findBelt hl0 _ _ _ _ _ hq) (fun _ _ _ _ _ _ h hW h1 h2 h3 => bw_up C (fun _ _ z => z) h hW h1 h2 h3 (Nat.le_trans (Nat.add_le_add_left h6 _) hc) (Nat.le_trans (Nat.add_le_add_left h7 _) hs)) (fun v2 w3 H locs hv hW => ?_)
  obtain ⟨r8, rfl, hq⟩ := hv
  have hc := bw_bud hc h6
  have hs := bw_bud hs h7
  refine W.eq (g2 := F0 m 5 ls [va_rf r8]) rfl ?_
  refine bw_astore_n (i := 2) (lv' := [(2, va_rf r8), (0, va_rf (some x0)), (1, .int x1)]) hx hb d_Br_clean_5 rfl hl (by decide) (by simp [bw_cat, cat_i, cat_j]) (fun ls hl => ?_)
  refine bw_aload_n hx hb d_Br_clean_6 rfl (lv_at hl 0 rfl) ?_
  obtain ⟨a9, ea9, hq⟩ := hq
  obtain ⟨t10, hq⟩ := hq
  refine bw_getI hx hb ht in_Bt hown hK hW ea9 t10 (by decide) rfl 3 (by decide) rfl (ht _ m_246) (fun _ h => h) d_Br_clean_7 ?_
  refine lv_if_eq (tgt := 23) hx hb d_Br_clean_10 (by decide) (fun c11 => ?_) (fun c11 => ?_)
  · have hq := hq.1 c11
    refine bw_aload_n hx hb d_Br_clean_23 rfl (lv_at hl 0 rfl) ?_
    refine bw_getI hx hb ht in_Bt hown hK hW ea9 t10 (by decide) rfl 6 (by decide) rfl (ht _ m_252) (fun _ h => h) d_Br_clean_24 ?_
    refine lv_topi (fun i12 ei12 => ?_)
    have hq := hq i12 ei12
    refine lv_istore_n (i := 3) (lv' := [(3, .int i12), (2, va_rf r8), (0, va_rf (some x0)), (1, .int x1)]) hx hb d_Br_clean_27 rfl hl (by decide) (by simp [bw_cat, cat_i, cat_j]) (fun ls hl => ?_)
    refine lv_iconst (v := 0) hx hb d_Br_clean_28 (by decide) ?_
    refine lv_istore (lv' := [(4, .int (0 : Int32)), (3, .int i12), (2, va_rf r8), (0, va_rf (some x0)), (1, .int x1)]) hx hb d_Br_clean_29 hl (by decide) (by simp [bw_cat, cat_i, cat_j]) (fun ls hl => ?_)
    obtain ⟨n13, hq⟩ := hq
    exact k_Br_clean_31 C  n13 _ _ _ _ _ _ _ _ hq _ _ _ _ _ hW (lv_sub hl [3, 4, 2, 1, 0] rfl) hc hs
  · have hq := hq.2 c11
    obtain ⟨h14, h15, hq⟩ := hq
    exact bw_throw C hW rfl xa_Is (ht _ m_519) (is := 181) (text := "the belt runs") (by decide +kernel) hq hl.1 h14 h15 hc hs rfl rfl (Nat.le_of_ble_eq_true rfl) (by exact Nat.le_of_ble_eq_true rfl) d_Br_clean_13 d_Br_clean_16 d_Br_clean_17 d_Br_clean_19 d_Br_clean_22
theorem ci_Br_clean : CI n_Br_clean b_Br_clean 5 (some .int) 1 := ⟨m_676, m_1, by decide, by decide, by decide +kernel⟩
theorem c_Br_clean {l : Launch} {D : va_G} {AC : Nat → ClassId} {e0 mi : Nat} {Q : Int32 → Wd → Prop} {X : String → Wd → Prop} (hl0 : l.stackTraces = false) (x0 : Nat) (x1 : Int32) (w : Wd) (nc ns : Nat) (hq : wp_Br_clean e0 mi x0 x1 w nc ns Q X) : Ct l D AC e0 mi n_Br_clean (wy n_Br_clean b_Br_clean 5 (some .int)) 8 124 [va_rf (some x0), .int x1] w nc ns (fun v w9 => ∃ r9 : Int32, v = some (.int r9) ∧ Q r9 w9) X :=
  Ct.of hl0 (by decide) (by simp [lg_sl, bw_cat, cat_i, cat_j]) (fun p e s m args below meth c A ls C hW hl => k_Br_clean_0 C x0 x1 w nc ns hq s.heap [] 0 0 ls hW (by simpa [lv_args, bw_cat, cat_i, cat_j] using hl) (Nat.le_of_eq (Nat.zero_add _)) (Nat.le_of_eq (Nat.zero_add _)))
def wb_Br_gap_40 (e0 mi : Nat) (Q : Int32 → Wd → Prop) (X : String → Wd → Prop) (x0 : Nat) (x1 : Int32) (x2 : Int32) (x3 : Option Nat) (x4 : Option Nat) (w : Wd) (nc ns : Nat) : Prop :=
  1 ≤ nc ∧ 6 ≤ ns ∧ X "java/lang/IllegalStateException" w
set_option maxHeartbeats 4000000 in
set_option maxRecDepth 100000 in
theorem k_Br_gap_40 {p : Program} {l : Launch} {e : Env} {s : State} {m : MethodId} {args : Array Value} {below : List Frame} {meth : Method} {c : Code} {D : va_G} {AC : Nat → ClassId} {e0 mi : Nat} {A : Nat → Prop} {mc ms : Nat} {Q : Int32 → Wd → Prop} {X : String → Wd → Prop} (C : Cx p l s m args meth c D AC e0 mi A n_Br_gap b_Br_gap 5 (some .int)) (x0 : Nat) (x1 : Int32) (x2 : Int32) (x3 : Option Nat) (x4 : Option Nat) (w : Wd) (nc ns : Nat) (hq : wb_Br_gap_40 e0 mi Q X x0 x1 x2 x3 x4 w nc ns) : ∀ (H : Heap) (locs : List Loc) (cells slots : Nat) (ls : Array Slot), HW D cls8 FTc AC A s.heap H locs w → lv_has ls 5 [(0, va_rf (some x0)), (1, .int x1), (2, .int x2), (3, va_rf x3), (4, va_rf x4)] → cells + nc ≤ mc → slots + ns ≤ ms → W p l e { frames := 8, cells := mc, slots := ms, locals := 124 } s m args below meth c H locs cells slots (vx_MQ below (QQ D AC A (fun v w9 => ∃ r9 : Int32, v = some (.int r9) ∧ Q r9 w9)) (XX D AC A X) args s mc ms A) (F0 m 40 ls []) := by
  obtain ⟨hl0, hx, hb, hr, ht, hown, hlocks, hnm, hml, hex, hK, hA, hZ, hV⟩ := id C
  intro H locs cells slots ls hW hl hc hs
  unfold wb_Br_gap_40 at hq
  obtain ⟨h1, h2, hq⟩ := hq
  exact bw_throw C hW rfl xa_Is (ht _ m_519) (is := 192) (text := "these are not two items of one belt") (by decide +kernel) hq hl.1 h1 h2 hc hs rfl rfl (Nat.le_of_ble_eq_true rfl) (by exact Nat.le_of_ble_eq_true rfl) d_Br_gap_40 d_Br_gap_43 d_Br_gap_44 d_Br_gap_46 d_Br_gap_49
def wb_Br_gap_85 (e0 mi : Nat) (Q : Int32 → Wd → Prop) (X : String → Wd → Prop) (x0 : Nat) (x1 : Int32) (x2 : Int32) (x3 : Option Nat) (x4 : Option Nat) (z0 : Int32) (w : Wd) (nc ns : Nat) : Prop :=
  Q z0 w
set_option maxHeartbeats 4000000 in
set_option maxRecDepth 100000 in
theorem k_Br_gap_85 {p : Program} {l : Launch} {e : Env} {s : State} {m : MethodId} {args : Array Value} {below : List Frame} {meth : Method} {c : Code} {D : va_G} {AC : Nat → ClassId} {e0 mi : Nat} {A : Nat → Prop} {mc ms : Nat} {Q : Int32 → Wd → Prop} {X : String → Wd → Prop} (C : Cx p l s m args meth c D AC e0 mi A n_Br_gap b_Br_gap 5 (some .int)) (x0 : Nat) (x1 : Int32) (x2 : Int32) (x3 : Option Nat) (x4 : Option Nat) (z0 : Int32) (w : Wd) (nc ns : Nat) (hq : wb_Br_gap_85 e0 mi Q X x0 x1 x2 x3 x4 z0 w nc ns) : ∀ (H : Heap) (locs : List Loc) (cells slots : Nat) (ls : Array Slot), HW D cls8 FTc AC A s.heap H locs w → lv_has ls 5 [(0, va_rf (some x0)), (1, .int x1), (2, .int x2), (3, va_rf x3), (4, va_rf x4)] → cells + nc ≤ mc → slots + ns ≤ ms → W p l e { frames := 8, cells := mc, slots := ms, locals := 124 } s m args below meth c H locs cells slots (vx_MQ below (QQ D AC A (fun v w9 => ∃ r9 : Int32, v = some (.int r9) ∧ Q r9 w9)) (XX D AC A X) args s mc ms A) (F0 m 85 ls [.int z0]) := by
  obtain ⟨hl0, hx, hb, hr, ht, hown, hlocks, hnm, hml, hex, hK, hA, hZ, hV⟩ := id C
  intro H locs cells slots ls hW hl hc hs
  unfold wb_Br_gap_85 at hq
  exact bw_iret C hW ⟨_, rfl, hq⟩ d_Br_gap_85 (Nat.le_trans (Nat.le_add_right _ _) hc) (Nat.le_trans (Nat.le_add_right _ _) hs)
def wp_Br_gap (e0 mi : Nat) (x0 : Nat) (x1 : Int32) (x2 : Int32) (w : Wd) (nc ns : Nat) (Q : Int32 → Wd → Prop) (X : String → Wd → Prop) : Prop :=
  bw_is w x0 5 ∧ (∃ k4 k5 : Nat, k4 ≤ nc ∧ k5 ≤ ns ∧ wp_Br_findItem e0 mi x0 x1 w k4 k5 (fun r8 w3 => bw_is w3 x0 5 ∧ (∃ k12 k13 : Nat, k12 ≤ (nc - k4) ∧ k13 ≤ (ns - k5) ∧ wp_Br_findItem e0 mi x0 x2 w3 k12 k13 (fun r16 w11 => ∃ k19 k20 : Nat, k19 ≤ ((nc - k4) - k12) ∧ k20 ≤ ((ns - k5) - k13) ∧ wp_Br_checkOnBelt e0 mi r8 w11 k19 k20 (fun w18 => ∃ k26 k27 : Nat, k26 ≤ (((nc - k4) - k12) - k19) ∧ k27 ≤ (((ns - k5) - k13) - k20) ∧ wp_Br_checkOnBelt e0 mi r16 w18 k26 k27 (fun w25 => ∃ a31 : Nat, r8 = some a31 ∧ (bw_is w25 a31 2 ∧ (∃ a33 : Nat, r16 = some a33 ∧ (bw_is w25 a33 2 ∧ ((¬ (wR w25 a31 3) = (wR w25 a33 3) → (wb_Br_gap_40 e0 mi Q X x0 x1 x2 r8 r16 w25 ((((nc - k4) - k12) - k19) - k26) ((((ns - k5) - k13) - k20) - k27))) ∧ ((wR w25 a31 3) = (wR w25 a33 3) → ((¬ r8 = r16 → (((wI w25 a31 7) ≤ (wI w25 a33 7) → (wp_It_rear e0 mi a33 w25 (fun i44 w39 => bw_is w39 a31 2 ∧ (wb_Br_gap_85 e0 mi Q X x0 x1 x2 r8 r16 (i44 - (wI w39 a31 7)) w39 ((((nc - k4) - k12) - k19) - k26) ((((ns - k5) - k13) - k20) - k27))))) ∧ (¬ (wI w25 a31 7) ≤ (wI w25 a33 7) → (wp_It_rear e0 mi a31 w25 (fun i52 w47 => bw_is w47 a33 2 ∧ (wb_Br_gap_85 e0 mi Q X x0 x1 x2 r8 r16 (i52 - (wI w47 a33 7)) w47 ((((nc - k4) - k12) - k19) - k26) ((((ns - k5) - k13) - k20) - k27))))))) ∧ (r8 = r16 → (wb_Br_gap_40 e0 mi Q X x0 x1 x2 r8 r16 w25 ((((nc - k4) - k12) - k19) - k26) ((((ns - k5) - k13) - k20) - k27)))))))))) X) X) X)) X)
set_option maxHeartbeats 4000000 in
set_option maxRecDepth 100000 in
theorem k_Br_gap_0 {p : Program} {l : Launch} {e : Env} {s : State} {m : MethodId} {args : Array Value} {below : List Frame} {meth : Method} {c : Code} {D : va_G} {AC : Nat → ClassId} {e0 mi : Nat} {A : Nat → Prop} {mc ms : Nat} {Q : Int32 → Wd → Prop} {X : String → Wd → Prop} (C : Cx p l s m args meth c D AC e0 mi A n_Br_gap b_Br_gap 5 (some .int)) (x0 : Nat) (x1 : Int32) (x2 : Int32) (w : Wd) (nc ns : Nat) (hq : wp_Br_gap e0 mi x0 x1 x2 w nc ns Q X) : ∀ (H : Heap) (locs : List Loc) (cells slots : Nat) (ls : Array Slot), HW D cls8 FTc AC A s.heap H locs w → lv_has ls 5 [(0, va_rf (some x0)), (1, .int x1), (2, .int x2)] → cells + nc ≤ mc → slots + ns ≤ ms → W p l e { frames := 8, cells := mc, slots := ms, locals := 124 } s m args below meth c H locs cells slots (vx_MQ below (QQ D AC A (fun v w9 => ∃ r9 : Int32, v = some (.int r9) ∧ Q r9 w9)) (XX D AC A X) args s mc ms A) (F0 m 0 ls []) := by
  obtain ⟨hl0, hx, hb, hr, ht, hown, hlocks, hnm, hml, hex, hK, hA, hZ, hV⟩ := id C
  intro H locs cells slots ls hW hl hc hs
  unfold wp_Br_gap at hq
  refine bw_aload_n hx hb d_Br_gap_0 rfl (lv_at hl 0 rfl) ?_
  refine lv_iload_n hx hb d_Br_gap_1 rfl (lv_at hl 1 rfl) ?_
  obtain ⟨t1, hq⟩ := hq
  obtain ⟨k4, k5, h6, h7, hq⟩ := hq
  refine bw_callV (As := [.int x1]) (rest := []) C hW ci_Br_findItem m_511 m_513 sel_Br_findItem d_Br_gap_2 rfl t1 (by decide) rfl rfl rfl hl.1 (by decide) ⟨Nat.le_of_ble_eq_true rfl, Nat.le_of_ble_eq_true rfl⟩ ⟨Nat.le_trans (Nat.add_le_add_left h6 _) hc, Nat.le_trans (Nat.add_le_add_left h7 _) hs⟩ (c_Br_findItem hl0 _ _ _ _ _ hq) (fun _ _ _ _ _ _ h hW h1 h2 h3 => bw_up C (fun _ _ z => z) h hW h1 h2 h3 (Nat.le_trans (Nat.add_le_add_left h6 _) hc) (Nat.le_trans (Nat.add_le_add_left h7 _) hs)) (fun v2 w3 H locs hv hW => ?_)
  obtain ⟨r8, rfl, hq⟩ := hv
  have hc := bw_bud hc h6
  have hs := bw_bud hs h7
  refine W.eq (g2 := F0 m 5 ls [va_rf r8]) rfl ?_
  refine bw_astore_n (i := 3) (lv' := [(3, va_rf r8), (0, va_rf (some x0)), (1, .int x1), (2, .int x2)]) hx hb d_Br_gap_5 rfl hl (by decide) (by simp [bw_cat, cat_i, cat_j]) (fun ls hl => ?_)
  refine bw_aload_n hx hb d_Br_gap_6 rfl (lv_at hl 1 rfl) ?_
  refine lv_iload_n hx hb d_Br_gap_7 rfl (lv_at hl 3 rfl) ?_
  obtain ⟨t9, hq⟩ := hq
  obtain ⟨k12, k13, h14, h15, hq⟩ := hq
  refine bw_callV (As := [.int x2]) (rest := []) C hW ci_Br_findItem m_511 m_513 sel_Br_findItem d_Br_gap_8 rfl t9 (by decide) rfl rfl rfl hl.1 (by decide) ⟨Nat.le_of_ble_eq_true rfl, Nat.le_of_ble_eq_true rfl⟩ ⟨Nat.le_trans (Nat.add_le_add_left h14 _) hc, Nat.le_trans (Nat.add_le_add_left h15 _) hs⟩ (c_Br_findItem hl0 _ _ _ _ _ hq) (fun _ _ _ _ _ _ h hW h1 h2 h3 => bw_up C (fun _ _ z => z) h hW h1 h2 h3 (Nat.le_trans (Nat.add_le_add_left h14 _) hc) (Nat.le_trans (Nat.add_le_add_left h15 _) hs)) (fun v10 w11 H locs hv hW => ?_)
  obtain ⟨r16, rfl, hq⟩ := hv
  have hc := bw_bud hc h14
  have hs := bw_bud hs h15
  refine W.eq (g2 := F0 m 11 ls [va_rf r16]) rfl ?_
  refine bw_astore (lv' := [(4, va_rf r16), (3, va_rf r8), (0, va_rf (some x0)), (1, .int x1), (2, .int x2)]) hx hb d_Br_gap_11 hl (by decide) (by simp [bw_cat, cat_i, cat_j]) (fun ls hl => ?_)
  refine bw_aload_n hx hb d_Br_gap_13 rfl (lv_at hl 1 rfl) ?_
  obtain ⟨k19, k20, h21, h22, hq⟩ := hq
  refine bw_callS (As := [va_rf r8]) (rest := []) C hW ci_Br_checkOnBelt m_516 m_517 d_Br_gap_14 rfl rfl hl.1 (by decide) ⟨Nat.le_of_ble_eq_true rfl, Nat.le_of_ble_eq_true rfl⟩ ⟨Nat.le_trans (Nat.add_le_add_left h21 _) hc, Nat.le_trans (Nat.add_le_add_left h22 _) hs⟩ (c_Br_checkOnBelt hl0 _ _ _ _ hq) (fun _ _ _ _ _ _ h hW h1 h2 h3 => bw_up C (fun _ _ z => z) h hW h1 h2 h3 (Nat.le_trans (Nat.add_le_add_left h21 _) hc) (Nat.le_trans (Nat.add_le_add_left h22 _) hs)) (fun v17 w18 H locs hv hW => ?_)
  obtain ⟨rfl, hq⟩ := hv
  have hc := bw_bud hc h21
  have hs := bw_bud hs h22
  refine W.eq (g2 := F0 m 17 ls []) rfl ?_
  refine bw_aload hx hb d_Br_gap_17 (lv_at hl 0 rfl) ?_
  obtain ⟨k26, k27, h28, h29, hq⟩ := hq
  refine bw_callS (As := [va_rf r16]) (rest := []) C hW ci_Br_checkOnBelt m_516 m_517 d_Br_gap_19 rfl rfl hl.1 (by decide) ⟨Nat.le_of_ble_eq_true rfl, Nat.le_of_ble_eq_true rfl⟩ ⟨Nat.le_trans (Nat.add_le_add_left h28 _) hc, Nat.le_trans (Nat.add_le_add_left h29 _) hs⟩ (c_Br_checkOnBelt hl0 _ _ _ _ hq) (fun _ _ _ _ _ _ h hW h1 h2 h3 => bw_up C (fun _ _ z => z) h hW h1 h2 h3 (Nat.le_trans (Nat.add_le_add_left h28 _) hc) (Nat.le_trans (Nat.add_le_add_left h29 _) hs)) (fun v24 w25 H locs hv hW => ?_)
  obtain ⟨rfl, hq⟩ := hv
  have hc := bw_bud hc h28
  have hs := bw_bud hs h29
  refine W.eq (g2 := F0 m 22 ls []) rfl ?_
  refine bw_aload_n hx hb d_Br_gap_22 rfl (lv_at hl 1 rfl) ?_
  obtain ⟨a31, ea31, hq⟩ := hq
  obtain ⟨t32, hq⟩ := hq
  refine bw_getR hx hb ht in_It hown hK hW ea31 t32 (by decide) rfl 3 (by decide) rfl (ht _ m_450) (fun _ h => h) d_Br_gap_23 ?_
  refine bw_aload hx hb d_Br_gap_26 (lv_at hl 0 rfl) ?_
  obtain ⟨a33, ea33, hq⟩ := hq
  obtain ⟨t34, hq⟩ := hq
  refine bw_getR hx hb ht in_It hown hK hW ea33 t34 (by decide) rfl 3 (by decide) rfl (ht _ m_450) (fun _ h => h) d_Br_gap_28 ?_
  refine lv_acmp_ne (tgt := 40) hx hb d_Br_gap_31 (by decide) (fun c35 => ?_) (fun c35 => ?_)
  · have hq := hq.1 c35
    exact k_Br_gap_40 C  _ _ _ _ _ _ _ _ hq _ _ _ _ _ hW (lv_sub hl [2, 3, 4, 1, 0] rfl) hc hs
  · have hq := hq.2 c35
    refine bw_aload_n hx hb d_Br_gap_34 rfl (lv_at hl 1 rfl) ?_
    refine bw_aload hx hb d_Br_gap_35 (lv_at hl 0 rfl) ?_
    refine lv_acmp_ne (tgt := 50) hx hb d_Br_gap_37 (by decide) (fun c36 => ?_) (fun c36 => ?_)
    · have hq := hq.1 c36
      refine bw_aload_n hx hb d_Br_gap_50 rfl (lv_at hl 1 rfl) ?_
      refine bw_getI hx hb ht in_It hown hK hW ea31 t32 (by decide) rfl 7 (by decide) rfl (ht _ m_460) (fun _ h => h) d_Br_gap_51 ?_
      refine bw_aload hx hb d_Br_gap_54 (lv_at hl 0 rfl) ?_
      refine bw_getI hx hb ht in_It hown hK hW ea33 t34 (by decide) rfl 7 (by decide) rfl (ht _ m_460) (fun _ h => h) d_Br_gap_56 ?_
      refine lv_icmp_le (tgt := 75) hx hb d_Br_gap_59 (by decide) (fun c37 => ?_) (fun c37 => ?_)
      · have hq := hq.1 c37
        refine bw_aload hx hb d_Br_gap_75 (lv_at hl 0 rfl) ?_
        refine bw_callV (As := []) (rest := []) C hW ci_It_rear m_432 m_433 m_434 d_Br_gap_77 ea33 t34 (by decide) rfl rfl rfl hl.1 (by decide) ⟨Nat.le_of_ble_eq_true rfl, Nat.le_of_ble_eq_true rfl⟩ ⟨Nat.le_trans (Nat.add_le_add_left (Nat.zero_le _) _) hc, Nat.le_trans (Nat.add_le_add_left (Nat.zero_le _) _) hs⟩ (c_It_rear hl0 _ _ hq) (fun _ _ _ _ _ _ h => h.elim) (fun v38 w39 H locs hv hW => ?_)
        obtain ⟨i44, rfl, hq⟩ := hv
        have hc := bw_bud0 hc
        have hs := bw_bud0 hs
        refine W.eq (g2 := F0 m 80 ls [.int i44]) rfl ?_
        refine bw_aload_n hx hb d_Br_gap_80 rfl (lv_at hl 1 rfl) ?_
        obtain ⟨t45, hq⟩ := hq
        refine bw_getI hx hb ht in_It hown hK hW ea31 t45 (by decide) rfl 7 (by decide) rfl (ht _ m_460) (fun _ h => h) d_Br_gap_81 ?_
        refine lv_isub hx hb d_Br_gap_84 ?_
        exact k_Br_gap_85 C  _ _ _ _ _ _ _ _ _ hq _ _ _ _ _ hW (lv_sub hl [2, 3, 4, 1, 0] rfl) hc hs
      · have hq := hq.2 c37
        refine bw_aload_n hx hb d_Br_gap_62 rfl (lv_at hl 1 rfl) ?_
        refine bw_callV (As := []) (rest := []) C hW ci_It_rear m_432 m_433 m_434 d_Br_gap_63 ea31 t32 (by decide) rfl rfl rfl hl.1 (by decide) ⟨Nat.le_of_ble_eq_true rfl, Nat.le_of_ble_eq_true rfl⟩ ⟨Nat.le_trans (Nat.add_le_add_left (Nat.zero_le _) _) hc, Nat.le_trans (Nat.add_le_add_left (Nat.zero_le _) _) hs⟩ (c_It_rear hl0 _ _ hq) (fun _ _ _ _ _ _ h => h.elim) (fun v46 w47 H locs hv hW => ?_)
        obtain ⟨i52, rfl, hq⟩ := hv
        have hc := bw_bud0 hc
        have hs := bw_bud0 hs
        refine W.eq (g2 := F0 m 66 ls [.int i52]) rfl ?_
        refine bw_aload hx hb d_Br_gap_66 (lv_at hl 0 rfl) ?_
        obtain ⟨t53, hq⟩ := hq
        refine bw_getI hx hb ht in_It hown hK hW ea33 t53 (by decide) rfl 7 (by decide) rfl (ht _ m_460) (fun _ h => h) d_Br_gap_68 ?_
        refine lv_isub hx hb d_Br_gap_71 ?_
        refine lv_goto (tgt := 85) hx hb d_Br_gap_72 (by decide) ?_
        exact k_Br_gap_85 C  _ _ _ _ _ _ _ _ _ hq _ _ _ _ _ hW (lv_sub hl [2, 3, 4, 1, 0] rfl) hc hs
    · have hq := hq.2 c36
      exact k_Br_gap_40 C  _ _ _ _ _ _ _ _ hq _ _ _ _ _ hW (lv_sub hl [2, 3, 4, 1, 0] rfl) hc hs
theorem ci_Br_gap : CI n_Br_gap b_Br_gap 5 (some .int) 2 := ⟨m_684, m_1, by decide, by decide, by decide +kernel⟩
theorem c_Br_gap {l : Launch} {D : va_G} {AC : Nat → ClassId} {e0 mi : Nat} {Q : Int32 → Wd → Prop} {X : String → Wd → Prop} (hl0 : l.stackTraces = false) (x0 : Nat) (x1 : Int32) (x2 : Int32) (w : Wd) (nc ns : Nat) (hq : wp_Br_gap e0 mi x0 x1 x2 w nc ns Q X) : Ct l D AC e0 mi n_Br_gap (wy n_Br_gap b_Br_gap 5 (some .int)) 8 124 [va_rf (some x0), .int x1, .int x2] w nc ns (fun v w9 => ∃ r9 : Int32, v = some (.int r9) ∧ Q r9 w9) X :=
  Ct.of hl0 (by decide) (by simp [lg_sl, bw_cat, cat_i, cat_j]) (fun p e s m args below meth c A ls C hW hl => k_Br_gap_0 C x0 x1 x2 w nc ns hq s.heap [] 0 0 ls hW (by simpa [lv_args, bw_cat, cat_i, cat_j] using hl) (Nat.le_of_eq (Nat.zero_add _)) (Nat.le_of_eq (Nat.zero_add _)))
def wb_Br_told_125 (e0 mi : Nat) (Q : Int32 → Wd → Prop) (X : String → Wd → Prop) (x0 : Nat) (x1 : Int32) (x2 : Int32) (x3 : Option Nat) (x4 : Int32) (z0 : Int32) (w : Wd) (nc ns : Nat) : Prop :=
  Q z0 w
set_option maxHeartbeats 4000000 in
set_option maxRecDepth 100000 in
theorem k_Br_told_125 {p : Program} {l : Launch} {e : Env} {s : State} {m : MethodId} {args : Array Value} {below : List Frame} {meth : Method} {c : Code} {D : va_G} {AC : Nat → ClassId} {e0 mi : Nat} {A : Nat → Prop} {mc ms : Nat} {Q : Int32 → Wd → Prop} {X : String → Wd → Prop} (C : Cx p l s m args meth c D AC e0 mi A n_Br_told b_Br_told 5 (some .int)) (x0 : Nat) (x1 : Int32) (x2 : Int32) (x3 : Option Nat) (x4 : Int32) (z0 : Int32) (w : Wd) (nc ns : Nat) (hq : wb_Br_told_125 e0 mi Q X x0 x1 x2 x3 x4 z0 w nc ns) : ∀ (H : Heap) (locs : List Loc) (cells slots : Nat) (ls : Array Slot), HW D cls8 FTc AC A s.heap H locs w → lv_has ls 5 [(0, va_rf (some x0)), (1, .int x1), (2, .int x2), (3, va_rf x3), (4, .int x4)] → cells + nc ≤ mc → slots + ns ≤ ms → W p l e { frames := 8, cells := mc, slots := ms, locals := 124 } s m args below meth c H locs cells slots (vx_MQ below (QQ D AC A (fun v w9 => ∃ r9 : Int32, v = some (.int r9) ∧ Q r9 w9)) (XX D AC A X) args s mc ms A) (F0 m 125 ls [.int z0]) := by
  obtain ⟨hl0, hx, hb, hr, ht, hown, hlocks, hnm, hml, hex, hK, hA, hZ, hV⟩ := id C
  intro H locs cells slots ls hW hl hc hs
  unfold wb_Br_told_125 at hq
  exact bw_iret C hW ⟨_, rfl, hq⟩ d_Br_told_125 (Nat.le_trans (Nat.le_add_right _ _) hc) (Nat.le_trans (Nat.le_add_right _ _) hs)
def wb_Br_told_101 (e0 mi : Nat) (Q : Int32 → Wd → Prop) (X : String → Wd → Prop) (x0 : Nat) (x1 : Int32) (x2 : Int32) (x3 : Option Nat) (x4 : Int32) (z0 : Int32) (w : Wd) (nc ns : Nat) : Prop :=
  Q z0 w
set_option maxHeartbeats 4000000 in
set_option maxRecDepth 100000 in
theorem k_Br_told_101 {p : Program} {l : Launch} {e : Env} {s : State} {m : MethodId} {args : Array Value} {below : List Frame} {meth : Method} {c : Code} {D : va_G} {AC : Nat → ClassId} {e0 mi : Nat} {A : Nat → Prop} {mc ms : Nat} {Q : Int32 → Wd → Prop} {X : String → Wd → Prop} (C : Cx p l s m args meth c D AC e0 mi A n_Br_told b_Br_told 5 (some .int)) (x0 : Nat) (x1 : Int32) (x2 : Int32) (x3 : Option Nat) (x4 : Int32) (z0 : Int32) (w : Wd) (nc ns : Nat) (hq : wb_Br_told_101 e0 mi Q X x0 x1 x2 x3 x4 z0 w nc ns) : ∀ (H : Heap) (locs : List Loc) (cells slots : Nat) (ls : Array Slot), HW D cls8 FTc AC A s.heap H locs w → lv_has ls 5 [(0, va_rf (some x0)), (1, .int x1), (2, .int x2), (3, va_rf x3), (4, .int x4)] → cells + nc ≤ mc → slots + ns ≤ ms → W p l e { frames := 8, cells := mc, slots := ms, locals := 124 } s m args below meth c H locs cells slots (vx_MQ below (QQ D AC A (fun v w9 => ∃ r9 : Int32, v = some (.int r9) ∧ Q r9 w9)) (XX D AC A X) args s mc ms A) (F0 m 101 ls [.int z0]) := by
  obtain ⟨hl0, hx, hb, hr, ht, hown, hlocks, hnm, hml, hex, hK, hA, hZ, hV⟩ := id C
  intro H locs cells slots ls hW hl hc hs
  unfold wb_Br_told_101 at hq
  exact bw_iret C hW ⟨_, rfl, hq⟩ d_Br_told_101 (Nat.le_trans (Nat.le_add_right _ _) hc) (Nat.le_trans (Nat.le_add_right _ _) hs)
def wb_Br_told_87 (e0 mi : Nat) (Q : Int32 → Wd → Prop) (X : String → Wd → Prop) (x0 : Nat) (x1 : Int32) (x2 : Int32) (x3 : Option Nat) (x4 : Int32) (z0 : Int32) (w : Wd) (nc ns : Nat) : Prop :=
  Q z0 w
set_option maxHeartbeats 4000000 in
set_option maxRecDepth 100000 in
theorem k_Br_told_87 {p : Program} {l : Launch} {e : Env} {s : State} {m : MethodId} {args : Array Value} {below : List Frame} {meth : Method} {c : Code} {D : va_G} {AC : Nat → ClassId} {e0 mi : Nat} {A : Nat → Prop} {mc ms : Nat} {Q : Int32 → Wd → Prop} {X : String → Wd → Prop} (C : Cx p l s m args meth c D AC e0 mi A n_Br_told b_Br_told 5 (some .int)) (x0 : Nat) (x1 : Int32) (x2 : Int32) (x3 : Option Nat) (x4 : Int32) (z0 : Int32) (w : Wd) (nc ns : Nat) (hq : wb_Br_told_87 e0 mi Q X x0 x1 x2 x3 x4 z0 w nc ns) : ∀ (H : Heap) (locs : List Loc) (cells slots : Nat) (ls : Array Slot), HW D cls8 FTc AC A s.heap H locs w → lv_has ls 5 [(0, va_rf (some x0)), (1, .int x1), (2, .int x2), (3, va_rf x3), (4, .int x4)] → cells + nc ≤ mc → slots + ns ≤ ms → W p l e { frames := 8, cells := mc, slots := ms, locals := 124 } s m args below meth c H locs cells slots (vx_MQ below (QQ D AC A (fun v w9 => ∃ r9 : Int32, v = some (.int r9) ∧ Q r9 w9)) (XX D AC A X) args s mc ms A) (F0 m 87 ls [.int z0]) := by
  obtain ⟨hl0, hx, hb, hr, ht, hown, hlocks, hnm, hml, hex, hK, hA, hZ, hV⟩ := id C
  intro H locs cells slots ls hW hl hc hs
  unfold wb_Br_told_87 at hq
  exact bw_iret C hW ⟨_, rfl, hq⟩ d_Br_told_87 (Nat.le_trans (Nat.le_add_right _ _) hc) (Nat.le_trans (Nat.le_add_right _ _) hs)
def wb_Br_told_18 (e0 mi : Nat) (Q : Int32 → Wd → Prop) (X : String → Wd → Prop) (x0 : Nat) (x1 : Int32) (x2 : Int32) (x3 : Option Nat) (z0 : Int32) (w : Wd) (nc ns : Nat) : Prop :=
  (x2 = 0 → (∃ a2 : Nat, x3 = some a2 ∧ (bw_is w a2 2 ∧ (Q (wI w a2 6) w)))) ∧ (x2 = 1 → (∃ a4 : Nat, x3 = some a4 ∧ (bw_is w a4 2 ∧ ((¬ (wR w a4 3) = none → (∃ a7 : Nat, (wR w a4 3) = some a7 ∧ (bw_is w a7 0 ∧ (wb_Br_told_87 e0 mi Q X x0 x1 x2 x3 z0 (wI w a7 0) w nc ns)))) ∧ ((wR w a4 3) = none → (wb_Br_told_87 e0 mi Q X x0 x1 x2 x3 z0 (-1 : Int32) w nc ns)))))) ∧ (x2 = 2 → ((z0 = 0 → (wb_Br_told_101 e0 mi Q X x0 x1 x2 x3 z0 (-1 : Int32) w nc ns)) ∧ (¬ z0 = 0 → (∃ a10 : Nat, x3 = some a10 ∧ (bw_is w a10 2 ∧ (wb_Br_told_101 e0 mi Q X x0 x1 x2 x3 z0 (wI w a10 7) w nc ns)))))) ∧ (x2 = 3 → (∃ a12 : Nat, x3 = some a12 ∧ (bw_is w a12 2 ∧ (Q (wI w a12 1) w)))) ∧ (x2 = 4 → (∃ a14 : Nat, x3 = some a14 ∧ (bw_is w a14 2 ∧ (Q (wI w a14 9) w)))) ∧ (x2 = 5 → ((z0 = 0 → (wb_Br_told_125 e0 mi Q X x0 x1 x2 x3 z0 (-1 : Int32) w nc ns)) ∧ (¬ z0 = 0 → (∃ a17 : Nat, x3 = some a17 ∧ (bw_is w a17 2 ∧ (wb_Br_told_125 e0 mi Q X x0 x1 x2 x3 z0 (wI w a17 8) w nc ns)))))) ∧ (x2 = 6 → (∃ a19 : Nat, x3 = some a19 ∧ (bw_is w a19 2 ∧ (Q (wI w a19 2) w)))) ∧ ((x2.toInt < 0 ∨ 6 < x2.toInt) → (1 ≤ nc ∧ 6 ≤ ns ∧ X "java/lang/IllegalArgumentException" w))
set_option maxHeartbeats 4000000 in
set_option maxRecDepth 100000 in
theorem k_Br_told_18 {p : Program} {l : Launch} {e : Env} {s : State} {m : MethodId} {args : Array Value} {below : List Frame} {meth : Method} {c : Code} {D : va_G} {AC : Nat → ClassId} {e0 mi : Nat} {A : Nat → Prop} {mc ms : Nat} {Q : Int32 → Wd → Prop} {X : String → Wd → Prop} (C : Cx p l s m args meth c D AC e0 mi A n_Br_told b_Br_told 5 (some .int)) (x0 : Nat) (x1 : Int32) (x2 : Int32) (x3 : Option Nat) (z0 : Int32) (w : Wd) (nc ns : Nat) (hq : wb_Br_told_18 e0 mi Q X x0 x1 x2 x3 z0 w nc ns) : ∀ (H : Heap) (locs : List Loc) (cells slots : Nat) (ls : Array Slot), HW D cls8 FTc AC A s.heap H locs w → lv_has ls 5 [(0, va_rf (some x0)), (1, .int x1), (2, .int x2), (3, va_rf x3)] → cells + nc ≤ mc → slots + ns ≤ ms → W p l e { frames := 8, cells := mc, slots := ms, locals := 124 } s m args below meth c H locs cells slots (vx_MQ below (QQ D AC A (fun v w9 => ∃ r9 : Int32, v = some (.int r9) ∧ Q r9 w9)) (XX D AC A X) args s mc ms A) (F0 m 18 ls [.int z0]) := by
  obtain ⟨hl0, hx, hb, hr, ht, hown, hlocks, hnm, hml, hex, hK, hA, hZ, hV⟩ := id C
  intro H locs cells slots ls hW hl hc hs
  unfold wb_Br_told_18 at hq
  refine lv_istore (lv' := [(4, .int z0), (0, va_rf (some x0)), (1, .int x1), (2, .int x2), (3, va_rf x3)]) hx hb d_Br_told_18 hl (by decide) (by simp [bw_cat, cat_i, cat_j]) (fun ls hl => ?_)
  refine lv_iload_n hx hb d_Br_told_20 rfl (lv_at hl 3 rfl) ?_
  by_cases c1 : x2.toInt < 0 ∨ 6 < x2.toInt
  · have hq := hq.2.2.2.2.2.2.2 c1
    refine lv_tableOut (tgt := 131) hx hb d_Br_told_21 c1 (by decide) ?_
    obtain ⟨h21, h22, hq⟩ := hq
    exact bw_throw C hW rfl xa_Ia (ht _ m_126) (is := 205) (text := "nothing of an item has this number") (by decide +kernel) hq hl.1 h21 h22 hc hs rfl rfl (Nat.le_of_ble_eq_true rfl) (by exact Nat.le_of_ble_eq_true rfl) d_Br_told_131 d_Br_told_134 d_Br_told_135 d_Br_told_137 d_Br_told_140
  · have c12 : x2 = 0 ∨ x2 = 1 ∨ x2 = 2 ∨ x2 = 3 ∨ x2 = 4 ∨ x2 = 5 ∨ x2 = 6 := bw_sw7 c1
    rcases c12 with c1 | c1 | c1 | c1 | c1 | c1 | c1
    · have hq := hq.1 c1
      refine lv_tableIn (tgt := 64) hx hb d_Br_told_21 (by rw [c1]; decide) (by rw [c1]; decide) (by rw [c1]; rfl) (by decide) ?_
      refine bw_aload_n hx hb d_Br_told_64 rfl (lv_at hl 4 rfl) ?_
      obtain ⟨a2, ea2, hq⟩ := hq
      obtain ⟨t3, hq⟩ := hq
      refine bw_getI hx hb ht in_It hown hK hW ea2 t3 (by decide) rfl 6 (by decide) rfl (ht _ m_457) (fun _ h => h) d_Br_told_65 ?_
      exact bw_iret C hW ⟨_, rfl, hq⟩ d_Br_told_68 (Nat.le_trans (Nat.le_add_right _ _) hc) (Nat.le_trans (Nat.le_add_right _ _) hs)
    · have hq := hq.2.1 c1
      refine lv_tableIn (tgt := 69) hx hb d_Br_told_21 (by rw [c1]; decide) (by rw [c1]; decide) (by rw [c1]; rfl) (by decide) ?_
      refine bw_aload_n hx hb d_Br_told_69 rfl (lv_at hl 4 rfl) ?_
      obtain ⟨a4, ea4, hq⟩ := hq
      obtain ⟨t5, hq⟩ := hq
      refine bw_getR hx hb ht in_It hown hK hW ea4 t5 (by decide) rfl 3 (by decide) rfl (ht _ m_450) (fun _ h => h) d_Br_told_70 ?_
      refine bw_ifnonnull (tgt := 80) hx hb d_Br_told_73 (by decide) (fun c6 => ?_) (fun c6 => ?_)
      · have hq := hq.1 c6
        refine bw_aload_n hx hb d_Br_told_80 rfl (lv_at hl 4 rfl) ?_
        refine bw_getR hx hb ht in_It hown hK hW ea4 t5 (by decide) rfl 3 (by decide) rfl (ht _ m_450) (fun _ h => h) d_Br_told_81 ?_
        obtain ⟨a7, ea7, hq⟩ := hq
        obtain ⟨t8, hq⟩ := hq
        refine bw_getI hx hb ht in_Bt hown hK hW ea7 t8 (by decide) rfl 0 (by decide) rfl (ht _ m_238) (fun _ h => h) d_Br_told_84 ?_
        exact k_Br_told_87 C  _ _ _ _ _ _ _ _ _ hq _ _ _ _ _ hW (lv_sub hl [1, 2, 3, 4, 0] rfl) hc hs
      · have hq := hq.2 c6
        refine lv_iconst (v := (-1)) hx hb d_Br_told_76 (by decide) ?_
        refine lv_goto (tgt := 87) hx hb d_Br_told_77 (by decide) ?_
        exact k_Br_told_87 C  _ _ _ _ _ _ _ _ _ hq _ _ _ _ _ hW (lv_sub hl [1, 2, 3, 4, 0] rfl) hc hs
    · have hq := hq.2.2.1 c1
      refine lv_tableIn (tgt := 88) hx hb d_Br_told_21 (by rw [c1]; decide) (by rw [c1]; decide) (by rw [c1]; rfl) (by decide) ?_
      refine lv_iload hx hb d_Br_told_88 (lv_at hl 0 rfl) ?_
      refine lv_if_eq (tgt := 100) hx hb d_Br_told_90 (by decide) (fun c9 => ?_) (fun c9 => ?_)
      · have hq := hq.1 c9
        refine lv_iconst (v := (-1)) hx hb d_Br_told_100 (by decide) ?_
        exact k_Br_told_101 C  _ _ _ _ _ _ _ _ _ hq _ _ _ _ _ hW (lv_sub hl [1, 2, 3, 4, 0] rfl) hc hs
      · have hq := hq.2 c9
        refine bw_aload_n hx hb d_Br_told_93 rfl (lv_at hl 4 rfl) ?_
        obtain ⟨a10, ea10, hq⟩ := hq
        obtain ⟨t11, hq⟩ := hq
        refine bw_getI hx hb ht in_It hown hK hW ea10 t11 (by decide) rfl 7 (by decide) rfl (ht _ m_460) (fun _ h => h) d_Br_told_94 ?_
        refine lv_goto (tgt := 101) hx hb d_Br_told_97 (by decide) ?_
        exact k_Br_told_101 C  _ _ _ _ _ _ _ _ _ hq _ _ _ _ _ hW (lv_sub hl [1, 2, 3, 4, 0] rfl) hc hs
    · have hq := hq.2.2.2.1 c1
      refine lv_tableIn (tgt := 102) hx hb d_Br_told_21 (by rw [c1]; decide) (by rw [c1]; decide) (by rw [c1]; rfl) (by decide) ?_
      refine bw_aload_n hx hb d_Br_told_102 rfl (lv_at hl 4 rfl) ?_
      obtain ⟨a12, ea12, hq⟩ := hq
      obtain ⟨t13, hq⟩ := hq
      refine bw_getI hx hb ht in_It hown hK hW ea12 t13 (by decide) rfl 1 (by decide) rfl (ht _ m_446) (fun _ h => h) d_Br_told_103 ?_
      exact bw_iret C hW ⟨_, rfl, hq⟩ d_Br_told_106 (Nat.le_trans (Nat.le_add_right _ _) hc) (Nat.le_trans (Nat.le_add_right _ _) hs)
    · have hq := hq.2.2.2.2.1 c1
      refine lv_tableIn (tgt := 107) hx hb d_Br_told_21 (by rw [c1]; decide) (by rw [c1]; decide) (by rw [c1]; rfl) (by decide) ?_
      refine bw_aload_n hx hb d_Br_told_107 rfl (lv_at hl 4 rfl) ?_
      obtain ⟨a14, ea14, hq⟩ := hq
      obtain ⟨t15, hq⟩ := hq
      refine bw_getI hx hb ht in_It hown hK hW ea14 t15 (by decide) rfl 9 (by decide) rfl (ht _ m_465) (fun _ h => h) d_Br_told_108 ?_
      exact bw_iret C hW ⟨_, rfl, hq⟩ d_Br_told_111 (Nat.le_trans (Nat.le_add_right _ _) hc) (Nat.le_trans (Nat.le_add_right _ _) hs)
    · have hq := hq.2.2.2.2.2.1 c1
      refine lv_tableIn (tgt := 112) hx hb d_Br_told_21 (by rw [c1]; decide) (by rw [c1]; decide) (by rw [c1]; rfl) (by decide) ?_
      refine lv_iload hx hb d_Br_told_112 (lv_at hl 0 rfl) ?_
      refine lv_if_eq (tgt := 124) hx hb d_Br_told_114 (by decide) (fun c16 => ?_) (fun c16 => ?_)
      · have hq := hq.1 c16
        refine lv_iconst (v := (-1)) hx hb d_Br_told_124 (by decide) ?_
        exact k_Br_told_125 C  _ _ _ _ _ _ _ _ _ hq _ _ _ _ _ hW (lv_sub hl [1, 2, 3, 4, 0] rfl) hc hs
      · have hq := hq.2 c16
        refine bw_aload_n hx hb d_Br_told_117 rfl (lv_at hl 4 rfl) ?_
        obtain ⟨a17, ea17, hq⟩ := hq
        obtain ⟨t18, hq⟩ := hq
        refine bw_getI hx hb ht in_It hown hK hW ea17 t18 (by decide) rfl 8 (by decide) rfl (ht _ m_462) (fun _ h => h) d_Br_told_118 ?_
        refine lv_goto (tgt := 125) hx hb d_Br_told_121 (by decide) ?_
        exact k_Br_told_125 C  _ _ _ _ _ _ _ _ _ hq _ _ _ _ _ hW (lv_sub hl [1, 2, 3, 4, 0] rfl) hc hs
    · have hq := hq.2.2.2.2.2.2.1 c1
      refine lv_tableIn (tgt := 126) hx hb d_Br_told_21 (by rw [c1]; decide) (by rw [c1]; decide) (by rw [c1]; rfl) (by decide) ?_
      refine bw_aload_n hx hb d_Br_told_126 rfl (lv_at hl 4 rfl) ?_
      obtain ⟨a19, ea19, hq⟩ := hq
      obtain ⟨t20, hq⟩ := hq
      refine bw_getI hx hb ht in_It hown hK hW ea19 t20 (by decide) rfl 2 (by decide) rfl (ht _ m_448) (fun _ h => h) d_Br_told_127 ?_
      exact bw_iret C hW ⟨_, rfl, hq⟩ d_Br_told_130 (Nat.le_trans (Nat.le_add_right _ _) hc) (Nat.le_trans (Nat.le_add_right _ _) hs)
def wp_Br_told (e0 mi : Nat) (x0 : Nat) (x1 : Int32) (x2 : Int32) (w : Wd) (nc ns : Nat) (Q : Int32 → Wd → Prop) (X : String → Wd → Prop) : Prop :=
  bw_is w x0 5 ∧ (∃ k4 k5 : Nat, k4 ≤ nc ∧ k5 ≤ ns ∧ wp_Br_findItem e0 mi x0 x1 w k4 k5 (fun r8 w3 => ∃ a9 : Nat, r8 = some a9 ∧ (bw_is w3 a9 2 ∧ ((¬ (wI w3 a9 6) = 0 → (wb_Br_told_18 e0 mi Q X x0 x1 x2 r8 (0 : Int32) w3 (nc - k4) (ns - k5))) ∧ ((wI w3 a9 6) = 0 → (wb_Br_told_18 e0 mi Q X x0 x1 x2 r8 (1 : Int32) w3 (nc - k4) (ns - k5)))))) X)
set_option maxHeartbeats 4000000 in
set_option maxRecDepth 100000 in
theorem k_Br_told_0 {p : Program} {l : Launch} {e : Env} {s : State} {m : MethodId} {args : Array Value} {below : List Frame} {meth : Method} {c : Code} {D : va_G} {AC : Nat → ClassId} {e0 mi : Nat} {A : Nat → Prop} {mc ms : Nat} {Q : Int32 → Wd → Prop} {X : String → Wd → Prop} (C : Cx p l s m args meth c D AC e0 mi A n_Br_told b_Br_told 5 (some .int)) (x0 : Nat) (x1 : Int32) (x2 : Int32) (w : Wd) (nc ns : Nat) (hq : wp_Br_told e0 mi x0 x1 x2 w nc ns Q X) : ∀ (H : Heap) (locs : List Loc) (cells slots : Nat) (ls : Array Slot), HW D cls8 FTc AC A s.heap H locs w → lv_has ls 5 [(0, va_rf (some x0)), (1, .int x1), (2, .int x2)] → cells + nc ≤ mc → slots + ns ≤ ms → W p l e { frames := 8, cells := mc, slots := ms, locals := 124 } s m args below meth c H locs cells slots (vx_MQ below (QQ D AC A (fun v w9 => ∃ r9 : Int32, v = some (.int r9) ∧ Q r9 w9)) (XX D AC A X) args s mc ms A) (F0 m 0 ls []) := by
  obtain ⟨hl0, hx, hb, hr, ht, hown, hlocks, hnm, hml, hex, hK, hA, hZ, hV⟩ := id C
  intro H locs cells slots ls hW hl hc hs
  unfold wp_Br_told at hq
  refine bw_aload_n hx hb d_Br_told_0 rfl (lv_at hl 0 rfl) ?_
  refine lv_iload_n hx hb d_Br_told_1 rfl (lv_at hl 1 rfl) ?_
  obtain ⟨t1, hq⟩ := hq
  obtain ⟨k4, k5, h6, h7, hq⟩ := hq
  refine bw_callV (As := [.int x1]) (rest := []) C hW ci_Br_findItem m_511 m_513 sel_Br_findItem d_Br_told_2 rfl t1 (by decide) rfl rfl rfl hl.1 (by decide) ⟨Nat.le_of_ble_eq_true rfl, Nat.le_of_ble_eq_true rfl⟩ ⟨Nat.le_trans (Nat.add_le_add_left h6 _) hc, Nat.le_trans (Nat.add_le_add_left h7 _) hs⟩ (c_Br_findItem hl0 _ _ _ _ _ hq) (fun _ _ _ _ _ _ h hW h1 h2 h3 => bw_up C (fun _ _ z => z) h hW h1 h2 h3 (Nat.le_trans (Nat.add_le_add_left h6 _) hc) (Nat.le_trans (Nat.add_le_add_left h7 _) hs)) (fun v2 w3 H locs hv hW => ?_)
  obtain ⟨r8, rfl, hq⟩ := hv
  have hc := bw_bud hc h6
  have hs := bw_bud hs h7
  refine W.eq (g2 := F0 m 5 ls [va_rf r8]) rfl ?_
  refine bw_astore_n (i := 3) (lv' := [(3, va_rf r8), (0, va_rf (some x0)), (1, .int x1), (2, .int x2)]) hx hb d_Br_told_5 rfl hl (by decide) (by simp [bw_cat, cat_i, cat_j]) (fun ls hl => ?_)
  refine bw_aload_n hx hb d_Br_told_6 rfl (lv_at hl 0 rfl) ?_
  obtain ⟨a9, ea9, hq⟩ := hq
  obtain ⟨t10, hq⟩ := hq
  refine bw_getI hx hb ht in_It hown hK hW ea9 t10 (by decide) rfl 6 (by decide) rfl (ht _ m_457) (fun _ h => h) d_Br_told_7 ?_
  refine lv_if_ne (tgt := 17) hx hb d_Br_told_10 (by decide) (fun c11 => ?_) (fun c11 => ?_)
  · have hq := hq.1 c11
    refine lv_iconst (v := 0) hx hb d_Br_told_17 (by decide) ?_
    exact k_Br_told_18 C  _ _ _ _ _ _ _ _ hq _ _ _ _ _ hW (lv_sub hl [1, 2, 3, 0] rfl) hc hs
  · have hq := hq.2 c11
    refine lv_iconst (v := 1) hx hb d_Br_told_13 (by decide) ?_
    refine lv_goto (tgt := 18) hx hb d_Br_told_14 (by decide) ?_
    exact k_Br_told_18 C  _ _ _ _ _ _ _ _ hq _ _ _ _ _ hW (lv_sub hl [1, 2, 3, 0] rfl) hc hs
theorem ci_Br_told : CI n_Br_told b_Br_told 5 (some .int) 2 := ⟨m_692, m_1, by decide, by decide, by decide +kernel⟩
theorem c_Br_told {l : Launch} {D : va_G} {AC : Nat → ClassId} {e0 mi : Nat} {Q : Int32 → Wd → Prop} {X : String → Wd → Prop} (hl0 : l.stackTraces = false) (x0 : Nat) (x1 : Int32) (x2 : Int32) (w : Wd) (nc ns : Nat) (hq : wp_Br_told e0 mi x0 x1 x2 w nc ns Q X) : Ct l D AC e0 mi n_Br_told (wy n_Br_told b_Br_told 5 (some .int)) 8 124 [va_rf (some x0), .int x1, .int x2] w nc ns (fun v w9 => ∃ r9 : Int32, v = some (.int r9) ∧ Q r9 w9) X :=
  Ct.of hl0 (by decide) (by simp [lg_sl, bw_cat, cat_i, cat_j]) (fun p e s m args below meth c A ls C hW hl => k_Br_told_0 C x0 x1 x2 w nc ns hq s.heap [] 0 0 ls hW (by simpa [lv_args, bw_cat, cat_i, cat_j] using hl) (Nat.le_of_eq (Nat.zero_add _)) (Nat.le_of_eq (Nat.zero_add _)))
def wb_Br_known_102 (e0 mi : Nat) (Q : Int32 → Wd → Prop) (X : String → Wd → Prop) (x0 : Nat) (x1 : Int32) (x2 : Int32) (x3 : Option Nat) (z0 : Int32) (w : Wd) (nc ns : Nat) : Prop :=
  Q z0 w
set_option maxHeartbeats 4000000 in
set_option maxRecDepth 100000 in
theorem k_Br_known_102 {p : Program} {l : Launch} {e : Env} {s : State} {m : MethodId} {args : Array Value} {below : List Frame} {meth : Method} {c : Code} {D : va_G} {AC : Nat → ClassId} {e0 mi : Nat} {A : Nat → Prop} {mc ms : Nat} {Q : Int32 → Wd → Prop} {X : String → Wd → Prop} (C : Cx p l s m args meth c D AC e0 mi A n_Br_known b_Br_known 4 (some .int)) (x0 : Nat) (x1 : Int32) (x2 : Int32) (x3 : Option Nat) (z0 : Int32) (w : Wd) (nc ns : Nat) (hq : wb_Br_known_102 e0 mi Q X x0 x1 x2 x3 z0 w nc ns) : ∀ (H : Heap) (locs : List Loc) (cells slots : Nat) (ls : Array Slot), HW D cls8 FTc AC A s.heap H locs w → lv_has ls 4 [(0, va_rf (some x0)), (1, .int x1), (2, .int x2), (3, va_rf x3)] → cells + nc ≤ mc → slots + ns ≤ ms → W p l e { frames := 8, cells := mc, slots := ms, locals := 124 } s m args below meth c H locs cells slots (vx_MQ below (QQ D AC A (fun v w9 => ∃ r9 : Int32, v = some (.int r9) ∧ Q r9 w9)) (XX D AC A X) args s mc ms A) (F0 m 102 ls [.int z0]) := by
  obtain ⟨hl0, hx, hb, hr, ht, hown, hlocks, hnm, hml, hex, hK, hA, hZ, hV⟩ := id C
  intro H locs cells slots ls hW hl hc hs
  unfold wb_Br_known_102 at hq
  exact bw_iret C hW ⟨_, rfl, hq⟩ d_Br_known_102 (Nat.le_trans (Nat.le_add_right _ _) hc) (Nat.le_trans (Nat.le_add_right _ _) hs)
def wb_Br_known_78 (e0 mi : Nat) (Q : Int32 → Wd → Prop) (X : String → Wd → Prop) (x0 : Nat) (x1 : Int32) (x2 : Int32) (x3 : Option Nat) (z0 : Int32) (w : Wd) (nc ns : Nat) : Prop :=
  Q z0 w
set_option maxHeartbeats 4000000 in
set_option maxRecDepth 100000 in
theorem k_Br_known_78 {p : Program} {l : Launch} {e : Env} {s : State} {m : MethodId} {args : Array Value} {below : List Frame} {meth : Method} {c : Code} {D : va_G} {AC : Nat → ClassId} {e0 mi : Nat} {A : Nat → Prop} {mc ms : Nat} {Q : Int32 → Wd → Prop} {X : String → Wd → Prop} (C : Cx p l s m args meth c D AC e0 mi A n_Br_known b_Br_known 4 (some .int)) (x0 : Nat) (x1 : Int32) (x2 : Int32) (x3 : Option Nat) (z0 : Int32) (w : Wd) (nc ns : Nat) (hq : wb_Br_known_78 e0 mi Q X x0 x1 x2 x3 z0 w nc ns) : ∀ (H : Heap) (locs : List Loc) (cells slots : Nat) (ls : Array Slot), HW D cls8 FTc AC A s.heap H locs w → lv_has ls 4 [(0, va_rf (some x0)), (1, .int x1), (2, .int x2), (3, va_rf x3)] → cells + nc ≤ mc → slots + ns ≤ ms → W p l e { frames := 8, cells := mc, slots := ms, locals := 124 } s m args below meth c H locs cells slots (vx_MQ below (QQ D AC A (fun v w9 => ∃ r9 : Int32, v = some (.int r9) ∧ Q r9 w9)) (XX D AC A X) args s mc ms A) (F0 m 78 ls [.int z0]) := by
  obtain ⟨hl0, hx, hb, hr, ht, hown, hlocks, hnm, hml, hex, hK, hA, hZ, hV⟩ := id C
  intro H locs cells slots ls hW hl hc hs
  unfold wb_Br_known_78 at hq
  exact bw_iret C hW ⟨_, rfl, hq⟩ d_Br_known_78 (Nat.le_trans (Nat.le_add_right _ _) hc) (Nat.le_trans (Nat.le_add_right _ _) hs)
def wp_Br_known (e0 mi : Nat) (x0 : Nat) (x1 : Int32) (x2 : Int32) (w : Wd) (nc ns : Nat) (Q : Int32 → Wd → Prop) (X : String → Wd → Prop) : Prop :=
  bw_is w x0 5 ∧ (∃ k4 k5 : Nat, k4 ≤ nc ∧ k5 ≤ ns ∧ wp_Br_findBelt e0 mi x0 x1 w k4 k5 (fun r8 w3 => (x2 = 0 → (∃ a10 : Nat, r8 = some a10 ∧ (bw_is w3 a10 0 ∧ (Q (wI w3 a10 1) w3)))) ∧ (x2 = 1 → (∃ a12 : Nat, r8 = some a12 ∧ (bw_is w3 a12 0 ∧ (Q (wI w3 a12 2) w3)))) ∧ (x2 = 2 → (∃ a14 : Nat, r8 = some a14 ∧ (bw_is w3 a14 0 ∧ (((wI w3 a14 3) = 0 → (wb_Br_known_78 e0 mi Q X x0 x1 x2 r8 (0 : Int32) w3 (nc - k4) (ns - k5))) ∧ (¬ (wI w3 a14 3) = 0 → (wb_Br_known_78 e0 mi Q X x0 x1 x2 r8 (1 : Int32) w3 (nc - k4) (ns - k5))))))) ∧ (x2 = 3 → (∃ a17 : Nat, r8 = some a17 ∧ (bw_is w3 a17 0 ∧ (Q (wI w3 a17 6) w3)))) ∧ (x2 = 4 → (∃ a19 : Nat, r8 = some a19 ∧ (bw_is w3 a19 0 ∧ ((¬ (wR w3 a19 4) = none → (∃ a22 : Nat, (wR w3 a19 4) = some a22 ∧ (bw_is w3 a22 2 ∧ (wb_Br_known_102 e0 mi Q X x0 x1 x2 r8 (wI w3 a22 0) w3 (nc - k4) (ns - k5))))) ∧ ((wR w3 a19 4) = none → (wb_Br_known_102 e0 mi Q X x0 x1 x2 r8 (-1 : Int32) w3 (nc - k4) (ns - k5))))))) ∧ (x2 = 5 → (∃ a24 : Nat, r8 = some a24 ∧ (bw_is w3 a24 0 ∧ (wp_Bt_wayNumbered e0 mi a24 (0 : Int32) w3 (fun r32 w27 => ∃ a33 : Nat, r32 = some a33 ∧ (bw_is w27 a33 4 ∧ (wp_Wy_nextNumber e0 mi a33 w27 (fun i41 w36 => Q i41 w36)))))))) ∧ (x2 = 6 → (∃ a42 : Nat, r8 = some a42 ∧ (bw_is w3 a42 0 ∧ (wp_Bt_wayNumbered e0 mi a42 (1 : Int32) w3 (fun r50 w45 => ∃ a51 : Nat, r50 = some a51 ∧ (bw_is w45 a51 4 ∧ (wp_Wy_nextNumber e0 mi a51 w45 (fun i59 w54 => Q i59 w54)))))))) ∧ (x2 = 7 → (∃ a60 : Nat, r8 = some a60 ∧ (bw_is w3 a60 0 ∧ (wp_Bt_wayNumbered e0 mi a60 (0 : Int32) w3 (fun r68 w63 => ∃ a69 : Nat, r68 = some a69 ∧ (bw_is w63 a69 4 ∧ (Q (wI w63 a69 2) w63))))))) ∧ (x2 = 8 → (∃ a71 : Nat, r8 = some a71 ∧ (bw_is w3 a71 0 ∧ (wp_Bt_wayNumbered e0 mi a71 (1 : Int32) w3 (fun r79 w74 => ∃ a80 : Nat, r79 = some a80 ∧ (bw_is w74 a80 4 ∧ (Q (wI w74 a80 2) w74))))))) ∧ ((x2.toInt < 0 ∨ 8 < x2.toInt) → (1 ≤ (nc - k4) ∧ 6 ≤ (ns - k5) ∧ X "java/lang/IllegalArgumentException" w3))) X)
set_option maxHeartbeats 4000000 in
set_option maxRecDepth 100000 in
theorem k_Br_known_0 {p : Program} {l : Launch} {e : Env} {s : State} {m : MethodId} {args : Array Value} {below : List Frame} {meth : Method} {c : Code} {D : va_G} {AC : Nat → ClassId} {e0 mi : Nat} {A : Nat → Prop} {mc ms : Nat} {Q : Int32 → Wd → Prop} {X : String → Wd → Prop} (C : Cx p l s m args meth c D AC e0 mi A n_Br_known b_Br_known 4 (some .int)) (x0 : Nat) (x1 : Int32) (x2 : Int32) (w : Wd) (nc ns : Nat) (hq : wp_Br_known e0 mi x0 x1 x2 w nc ns Q X) : ∀ (H : Heap) (locs : List Loc) (cells slots : Nat) (ls : Array Slot), HW D cls8 FTc AC A s.heap H locs w → lv_has ls 4 [(0, va_rf (some x0)), (1, .int x1), (2, .int x2)] → cells + nc ≤ mc → slots + ns ≤ ms → W p l e { frames := 8, cells := mc, slots := ms, locals := 124 } s m args below meth c H locs cells slots (vx_MQ below (QQ D AC A (fun v w9 => ∃ r9 : Int32, v = some (.int r9) ∧ Q r9 w9)) (XX D AC A X) args s mc ms A) (F0 m 0 ls []) := by
  obtain ⟨hl0, hx, hb, hr, ht, hown, hlocks, hnm, hml, hex, hK, hA, hZ, hV⟩ := id C
  intro H locs cells slots ls hW hl hc hs
  unfold wp_Br_known at hq
  refine bw_aload_n hx hb d_Br_known_0 rfl (lv_at hl 0 rfl) ?_
  refine lv_iload_n hx hb d_Br_known_1 rfl (lv_at hl 1 rfl) ?_
  obtain ⟨t1, hq⟩ := hq
  obtain ⟨k4, k5, h6, h7, hq⟩ := hq
  refine bw_callV (As := [.int x1]) (rest := []) C hW ci_Br_findBelt m_342 m_344 sel_Br_findBelt d_Br_known_2 rfl t1 (by decide) rfl rfl rfl hl.1 (by decide) ⟨Nat.le_of_ble_eq_true rfl, Nat.le_of_ble_eq_true rfl⟩ ⟨Nat.le_trans (Nat.add_le_add_left h6 _) hc, Nat.le_trans (Nat.add_le_add_left h7 _) hs⟩ (c_Br_findBelt hl0 _ _ _ _ _ hq) (fun _ _ _ _ _ _ h hW h1 h2 h3 => bw_up C (fun _ _ z => z) h hW h1 h2 h3 (Nat.le_trans (Nat.add_le_add_left h6 _) hc) (Nat.le_trans (Nat.add_le_add_left h7 _) hs)) (fun v2 w3 H locs hv hW => ?_)
  obtain ⟨r8, rfl, hq⟩ := hv
  have hc := bw_bud hc h6
  have hs := bw_bud hs h7
  refine W.eq (g2 := F0 m 5 ls [va_rf r8]) rfl ?_
  refine bw_astore_n (i := 3) (lv' := [(3, va_rf r8), (0, va_rf (some x0)), (1, .int x1), (2, .int x2)]) hx hb d_Br_known_5 rfl hl (by decide) (by simp [bw_cat, cat_i, cat_j]) (fun ls hl => ?_)
  refine lv_iload_n hx hb d_Br_known_6 rfl (lv_at hl 3 rfl) ?_
  by_cases c9 : x2.toInt < 0 ∨ 8 < x2.toInt
  · have hq := hq.2.2.2.2.2.2.2.2.2 c9
    refine lv_tableOut (tgt := 139) hx hb d_Br_known_7 c9 (by decide) ?_
    obtain ⟨h82, h83, hq⟩ := hq
    exact bw_throw C hW rfl xa_Ia (ht _ m_126) (is := 213) (text := "nothing of a belt has this number") (by decide +kernel) hq hl.1 h82 h83 hc hs rfl rfl (Nat.le_of_ble_eq_true rfl) (by exact Nat.le_of_ble_eq_true rfl) d_Br_known_139 d_Br_known_142 d_Br_known_143 d_Br_known_145 d_Br_known_148
  · have c92 : x2 = 0 ∨ x2 = 1 ∨ x2 = 2 ∨ x2 = 3 ∨ x2 = 4 ∨ x2 = 5 ∨ x2 = 6 ∨ x2 = 7 ∨ x2 = 8 := bw_sw9 c9
    rcases c92 with c9 | c9 | c9 | c9 | c9 | c9 | c9 | c9 | c9
    · have hq := hq.1 c9
      refine lv_tableIn (tgt := 56) hx hb d_Br_known_7 (by rw [c9]; decide) (by rw [c9]; decide) (by rw [c9]; rfl) (by decide) ?_
      refine bw_aload_n hx hb d_Br_known_56 rfl (lv_at hl 0 rfl) ?_
      obtain ⟨a10, ea10, hq⟩ := hq
      obtain ⟨t11, hq⟩ := hq
      refine bw_getI hx hb ht in_Bt hown hK hW ea10 t11 (by decide) rfl 1 (by decide) rfl (ht _ m_241) (fun _ h => h) d_Br_known_57 ?_
      exact bw_iret C hW ⟨_, rfl, hq⟩ d_Br_known_60 (Nat.le_trans (Nat.le_add_right _ _) hc) (Nat.le_trans (Nat.le_add_right _ _) hs)
    · have hq := hq.2.1 c9
      refine lv_tableIn (tgt := 61) hx hb d_Br_known_7 (by rw [c9]; decide) (by rw [c9]; decide) (by rw [c9]; rfl) (by decide) ?_
      refine bw_aload_n hx hb d_Br_known_61 rfl (lv_at hl 0 rfl) ?_
      obtain ⟨a12, ea12, hq⟩ := hq
      obtain ⟨t13, hq⟩ := hq
      refine bw_getI hx hb ht in_Bt hown hK hW ea12 t13 (by decide) rfl 2 (by decide) rfl (ht _ m_243) (fun _ h => h) d_Br_known_62 ?_
      exact bw_iret C hW ⟨_, rfl, hq⟩ d_Br_known_65 (Nat.le_trans (Nat.le_add_right _ _) hc) (Nat.le_trans (Nat.le_add_right _ _) hs)
    · have hq := hq.2.2.1 c9
      refine lv_tableIn (tgt := 66) hx hb d_Br_known_7 (by rw [c9]; decide) (by rw [c9]; decide) (by rw [c9]; rfl) (by decide) ?_
      refine bw_aload_n hx hb d_Br_known_66 rfl (lv_at hl 0 rfl) ?_
      obtain ⟨a14, ea14, hq⟩ := hq
      obtain ⟨t15, hq⟩ := hq
      refine bw_getI hx hb ht in_Bt hown hK hW ea14 t15 (by decide) rfl 3 (by decide) rfl (ht _ m_246) (fun _ h => h) d_Br_known_67 ?_
      refine lv_if_eq (tgt := 77) hx hb d_Br_known_70 (by decide) (fun c16 => ?_) (fun c16 => ?_)
      · have hq := hq.1 c16
        refine lv_iconst (v := 0) hx hb d_Br_known_77 (by decide) ?_
        exact k_Br_known_78 C  _ _ _ _ _ _ _ _ hq _ _ _ _ _ hW (lv_sub hl [1, 2, 3, 0] rfl) hc hs
      · have hq := hq.2 c16
        refine lv_iconst (v := 1) hx hb d_Br_known_73 (by decide) ?_
        refine lv_goto (tgt := 78) hx hb d_Br_known_74 (by decide) ?_
        exact k_Br_known_78 C  _ _ _ _ _ _ _ _ hq _ _ _ _ _ hW (lv_sub hl [1, 2, 3, 0] rfl) hc hs
    · have hq := hq.2.2.2.1 c9
      refine lv_tableIn (tgt := 79) hx hb d_Br_known_7 (by rw [c9]; decide) (by rw [c9]; decide) (by rw [c9]; rfl) (by decide) ?_
      refine bw_aload_n hx hb d_Br_known_79 rfl (lv_at hl 0 rfl) ?_
      obtain ⟨a17, ea17, hq⟩ := hq
      obtain ⟨t18, hq⟩ := hq
      refine bw_getI hx hb ht in_Bt hown hK hW ea17 t18 (by decide) rfl 6 (by decide) rfl (ht _ m_252) (fun _ h => h) d_Br_known_80 ?_
      exact bw_iret C hW ⟨_, rfl, hq⟩ d_Br_known_83 (Nat.le_trans (Nat.le_add_right _ _) hc) (Nat.le_trans (Nat.le_add_right _ _) hs)
    · have hq := hq.2.2.2.2.1 c9
      refine lv_tableIn (tgt := 84) hx hb d_Br_known_7 (by rw [c9]; decide) (by rw [c9]; decide) (by rw [c9]; rfl) (by decide) ?_
      refine bw_aload_n hx hb d_Br_known_84 rfl (lv_at hl 0 rfl) ?_
      obtain ⟨a19, ea19, hq⟩ := hq
      obtain ⟨t20, hq⟩ := hq
      refine bw_getR hx hb ht in_Bt hown hK hW ea19 t20 (by decide) rfl 4 (by decide) rfl (ht _ m_248) (fun _ h => h) d_Br_known_85 ?_
      refine bw_ifnonnull (tgt := 95) hx hb d_Br_known_88 (by decide) (fun c21 => ?_) (fun c21 => ?_)
      · have hq := hq.1 c21
        refine bw_aload_n hx hb d_Br_known_95 rfl (lv_at hl 0 rfl) ?_
        refine bw_getR hx hb ht in_Bt hown hK hW ea19 t20 (by decide) rfl 4 (by decide) rfl (ht _ m_248) (fun _ h => h) d_Br_known_96 ?_
        obtain ⟨a22, ea22, hq⟩ := hq
        obtain ⟨t23, hq⟩ := hq
        refine bw_getI hx hb ht in_It hown hK hW ea22 t23 (by decide) rfl 0 (by decide) rfl (ht _ m_444) (fun _ h => h) d_Br_known_99 ?_
        exact k_Br_known_102 C  _ _ _ _ _ _ _ _ hq _ _ _ _ _ hW (lv_sub hl [1, 2, 3, 0] rfl) hc hs
      · have hq := hq.2 c21
        refine lv_iconst (v := (-1)) hx hb d_Br_known_91 (by decide) ?_
        refine lv_goto (tgt := 102) hx hb d_Br_known_92 (by decide) ?_
        exact k_Br_known_102 C  _ _ _ _ _ _ _ _ hq _ _ _ _ _ hW (lv_sub hl [1, 2, 3, 0] rfl) hc hs
    · have hq := hq.2.2.2.2.2.1 c9
      refine lv_tableIn (tgt := 103) hx hb d_Br_known_7 (by rw [c9]; decide) (by rw [c9]; decide) (by rw [c9]; rfl) (by decide) ?_
      refine bw_aload_n hx hb d_Br_known_103 rfl (lv_at hl 0 rfl) ?_
      refine lv_iconst (v := 0) hx hb d_Br_known_104 (by decide) ?_
      obtain ⟨a24, ea24, hq⟩ := hq
      obtain ⟨t25, hq⟩ := hq
      refine bw_callV (As := [.int (0 : Int32)]) (rest := []) C hW ci_Bt_wayNumbered m_363 m_364 m_365 d_Br_known_105 ea24 t25 (by decide) rfl rfl rfl hl.1 (by decide) ⟨Nat.le_of_ble_eq_true rfl, Nat.le_of_ble_eq_true rfl⟩ ⟨Nat.le_trans (Nat.add_le_add_left (Nat.zero_le _) _) hc, Nat.le_trans (Nat.add_le_add_left (Nat.zero_le _) _) hs⟩ (c_Bt_wayNumbered hl0 _ _ _ hq) (fun _ _ _ _ _ _ h => h.elim) (fun v26 w27 H locs hv hW => ?_)
      obtain ⟨r32, rfl, hq⟩ := hv
      have hc := bw_bud0 hc
      have hs := bw_bud0 hs
      refine W.eq (g2 := F0 m 108 ls [va_rf r32]) rfl ?_
      obtain ⟨a33, ea33, hq⟩ := hq
      obtain ⟨t34, hq⟩ := hq
      refine bw_callV (As := []) (rest := []) C hW ci_Wy_nextNumber m_701 m_702 m_703 d_Br_known_108 ea33 t34 (by decide) rfl rfl rfl hl.1 (by decide) ⟨Nat.le_of_ble_eq_true rfl, Nat.le_of_ble_eq_true rfl⟩ ⟨Nat.le_trans (Nat.add_le_add_left (Nat.zero_le _) _) hc, Nat.le_trans (Nat.add_le_add_left (Nat.zero_le _) _) hs⟩ (c_Wy_nextNumber hl0 _ _ hq) (fun _ _ _ _ _ _ h => h.elim) (fun v35 w36 H locs hv hW => ?_)
      obtain ⟨i41, rfl, hq⟩ := hv
      have hc := bw_bud0 hc
      have hs := bw_bud0 hs
      refine W.eq (g2 := F0 m 111 ls [.int i41]) rfl ?_
      exact bw_iret C hW ⟨_, rfl, hq⟩ d_Br_known_111 (Nat.le_trans (Nat.le_add_right _ _) hc) (Nat.le_trans (Nat.le_add_right _ _) hs)
    · have hq := hq.2.2.2.2.2.2.1 c9
      refine lv_tableIn (tgt := 112) hx hb d_Br_known_7 (by rw [c9]; decide) (by rw [c9]; decide) (by rw [c9]; rfl) (by decide) ?_
      refine bw_aload_n hx hb d_Br_known_112 rfl (lv_at hl 0 rfl) ?_
      refine lv_iconst (v := 1) hx hb d_Br_known_113 (by decide) ?_
      obtain ⟨a42, ea42, hq⟩ := hq
      obtain ⟨t43, hq⟩ := hq
      refine bw_callV (As := [.int (1 : Int32)]) (rest := []) C hW ci_Bt_wayNumbered m_363 m_364 m_365 d_Br_known_114 ea42 t43 (by decide) rfl rfl rfl hl.1 (by decide) ⟨Nat.le_of_ble_eq_true rfl, Nat.le_of_ble_eq_true rfl⟩ ⟨Nat.le_trans (Nat.add_le_add_left (Nat.zero_le _) _) hc, Nat.le_trans (Nat.add_le_add_left (Nat.zero_le _) _) hs⟩ (c_Bt_wayNumbered hl0 _ _ _ hq) (fun _ _ _ _ _ _ h => h.elim) (fun v44 w45 H locs hv hW => ?_)
      obtain ⟨r50, rfl, hq⟩ := hv
      have hc := bw_bud0 hc
      have hs := bw_bud0 hs
      refine W.eq (g2 := F0 m 117 ls [va_rf r50]) rfl ?_
      obtain ⟨a51, ea51, hq⟩ := hq
      obtain ⟨t52, hq⟩ := hq
      refine bw_callV (As := []) (rest := []) C hW ci_Wy_nextNumber m_701 m_702 m_703 d_Br_known_117 ea51 t52 (by decide) rfl rfl rfl hl.1 (by decide) ⟨Nat.le_of_ble_eq_true rfl, Nat.le_of_ble_eq_true rfl⟩ ⟨Nat.le_trans (Nat.add_le_add_left (Nat.zero_le _) _) hc, Nat.le_trans (Nat.add_le_add_left (Nat.zero_le _) _) hs⟩ (c_Wy_nextNumber hl0 _ _ hq) (fun _ _ _ _ _ _ h => h.elim) (fun v53 w54 H locs hv hW => ?_)
      obtain ⟨i59, rfl, hq⟩ := hv
      have hc := bw_bud0 hc
      have hs := bw_bud0 hs
      refine W.eq (g2 := F0 m 120 ls [.int i59]) rfl ?_
      exact bw_iret C hW ⟨_, rfl, hq⟩ d_Br_known_120 (Nat.le_trans (Nat.le_add_right _ _) hc) (Nat.le_trans (Nat.le_add_right _ _) hs)
    · have hq := hq.2.2.2.2.2.2.2.1 c9
      refine lv_tableIn (tgt := 121) hx hb d_Br_known_7 (by rw [c9]; decide) (by rw [c9]; decide) (by rw [c9]; rfl) (by decide) ?_
      refine bw_aload_n hx hb d_Br_known_121 rfl (lv_at hl 0 rfl) ?_
      refine lv_iconst (v := 0) hx hb d_Br_known_122 (by decide) ?_
      obtain ⟨a60, ea60, hq⟩ := hq
      obtain ⟨t61, hq⟩ := hq
      refine bw_callV (As := [.int (0 : Int32)]) (rest := []) C hW ci_Bt_wayNumbered m_363 m_364 m_365 d_Br_known_123 ea60 t61 (by decide) rfl rfl rfl hl.1 (by decide) ⟨Nat.le_of_ble_eq_true rfl, Nat.le_of_ble_eq_true rfl⟩ ⟨Nat.le_trans (Nat.add_le_add_left (Nat.zero_le _) _) hc, Nat.le_trans (Nat.add_le_add_left (Nat.zero_le _) _) hs⟩ (c_Bt_wayNumbered hl0 _ _ _ hq) (fun _ _ _ _ _ _ h => h.elim) (fun v62 w63 H locs hv hW => ?_)
      obtain ⟨r68, rfl, hq⟩ := hv
      have hc := bw_bud0 hc
      have hs := bw_bud0 hs
      refine W.eq (g2 := F0 m 126 ls [va_rf r68]) rfl ?_
      obtain ⟨a69, ea69, hq⟩ := hq
      obtain ⟨t70, hq⟩ := hq
      refine bw_getI hx hb ht in_Wy hown hK hW ea69 t70 (by decide) rfl 2 (by decide) rfl (ht _ m_228) (fun _ h => h) d_Br_known_126 ?_
      exact bw_iret C hW ⟨_, rfl, hq⟩ d_Br_known_129 (Nat.le_trans (Nat.le_add_right _ _) hc) (Nat.le_trans (Nat.le_add_right _ _) hs)
    · have hq := hq.2.2.2.2.2.2.2.2.1 c9
      refine lv_tableIn (tgt := 130) hx hb d_Br_known_7 (by rw [c9]; decide) (by rw [c9]; decide) (by rw [c9]; rfl) (by decide) ?_
      refine bw_aload_n hx hb d_Br_known_130 rfl (lv_at hl 0 rfl) ?_
      refine lv_iconst (v := 1) hx hb d_Br_known_131 (by decide) ?_
      obtain ⟨a71, ea71, hq⟩ := hq
      obtain ⟨t72, hq⟩ := hq
      refine bw_callV (As := [.int (1 : Int32)]) (rest := []) C hW ci_Bt_wayNumbered m_363 m_364 m_365 d_Br_known_132 ea71 t72 (by decide) rfl rfl rfl hl.1 (by decide) ⟨Nat.le_of_ble_eq_true rfl, Nat.le_of_ble_eq_true rfl⟩ ⟨Nat.le_trans (Nat.add_le_add_left (Nat.zero_le _) _) hc, Nat.le_trans (Nat.add_le_add_left (Nat.zero_le _) _) hs⟩ (c_Bt_wayNumbered hl0 _ _ _ hq) (fun _ _ _ _ _ _ h => h.elim) (fun v73 w74 H locs hv hW => ?_)
      obtain ⟨r79, rfl, hq⟩ := hv
      have hc := bw_bud0 hc
      have hs := bw_bud0 hs
      refine W.eq (g2 := F0 m 135 ls [va_rf r79]) rfl ?_
      obtain ⟨a80, ea80, hq⟩ := hq
      obtain ⟨t81, hq⟩ := hq
      refine bw_getI hx hb ht in_Wy hown hK hW ea80 t81 (by decide) rfl 2 (by decide) rfl (ht _ m_228) (fun _ h => h) d_Br_known_135 ?_
      exact bw_iret C hW ⟨_, rfl, hq⟩ d_Br_known_138 (Nat.le_trans (Nat.le_add_right _ _) hc) (Nat.le_trans (Nat.le_add_right _ _) hs)
theorem ci_Br_known : CI n_Br_known b_Br_known 4 (some .int) 2 := ⟨m_700, m_1, by decide, by decide, by decide +kernel⟩
theorem c_Br_known {l : Launch} {D : va_G} {AC : Nat → ClassId} {e0 mi : Nat} {Q : Int32 → Wd → Prop} {X : String → Wd → Prop} (hl0 : l.stackTraces = false) (x0 : Nat) (x1 : Int32) (x2 : Int32) (w : Wd) (nc ns : Nat) (hq : wp_Br_known e0 mi x0 x1 x2 w nc ns Q X) : Ct l D AC e0 mi n_Br_known (wy n_Br_known b_Br_known 4 (some .int)) 8 124 [va_rf (some x0), .int x1, .int x2] w nc ns (fun v w9 => ∃ r9 : Int32, v = some (.int r9) ∧ Q r9 w9) X :=
  Ct.of hl0 (by decide) (by simp [lg_sl, bw_cat, cat_i, cat_j]) (fun p e s m args below meth c A ls C hW hl => k_Br_known_0 C x0 x1 x2 w nc ns hq s.heap [] 0 0 ls hW (by simpa [lv_args, bw_cat, cat_i, cat_j] using hl) (Nat.le_of_eq (Nat.zero_add _)) (Nat.le_of_eq (Nat.zero_add _)))
def wb_Br_order_15 (e0 mi : Nat) (Q : Int32 → Wd → Prop) (X : String → Wd → Prop) (x0 : Nat) (x1 : Int32) (w : Wd) (nc ns : Nat) : Prop :=
  1 ≤ nc ∧ 6 ≤ ns ∧ X "java/util/NoSuchElementException" w
set_option maxHeartbeats 4000000 in
set_option maxRecDepth 100000 in
theorem k_Br_order_15 {p : Program} {l : Launch} {e : Env} {s : State} {m : MethodId} {args : Array Value} {below : List Frame} {meth : Method} {c : Code} {D : va_G} {AC : Nat → ClassId} {e0 mi : Nat} {A : Nat → Prop} {mc ms : Nat} {Q : Int32 → Wd → Prop} {X : String → Wd → Prop} (C : Cx p l s m args meth c D AC e0 mi A n_Br_order b_Br_order 2 (some .int)) (x0 : Nat) (x1 : Int32) (w : Wd) (nc ns : Nat) (hq : wb_Br_order_15 e0 mi Q X x0 x1 w nc ns) : ∀ (H : Heap) (locs : List Loc) (cells slots : Nat) (ls : Array Slot), HW D cls8 FTc AC A s.heap H locs w → lv_has ls 2 [(0, va_rf (some x0)), (1, .int x1)] → cells + nc ≤ mc → slots + ns ≤ ms → W p l e { frames := 7, cells := mc, slots := ms, locals := 103 } s m args below meth c H locs cells slots (vx_MQ below (QQ D AC A (fun v w9 => ∃ r9 : Int32, v = some (.int r9) ∧ Q r9 w9)) (XX D AC A X) args s mc ms A) (F0 m 15 ls []) := by
  obtain ⟨hl0, hx, hb, hr, ht, hown, hlocks, hnm, hml, hex, hK, hA, hZ, hV⟩ := id C
  intro H locs cells slots ls hW hl hc hs
  unfold wb_Br_order_15 at hq
  obtain ⟨h1, h2, hq⟩ := hq
  exact bw_throwN C hW rfl (ht _ m_346) (is := 215) (text := "not so many items went out") (by decide +kernel) hq hl.1 h1 h2 hc hs rfl rfl (Nat.le_of_ble_eq_true rfl) (by exact Nat.le_of_ble_eq_true rfl) d_Br_order_15 d_Br_order_18 d_Br_order_19 d_Br_order_21 d_Br_order_24
def wp_Br_order (e0 mi : Nat) (x0 : Nat) (x1 : Int32) (w : Wd) (nc ns : Nat) (Q : Int32 → Wd → Prop) (X : String → Wd → Prop) : Prop :=
  (x1 < 0 → (wb_Br_order_15 e0 mi Q X x0 x1 w nc ns)) ∧ (¬ x1 < 0 → (bw_is w x0 5 ∧ (∃ a3 : Nat, (wR w x0 5) = some a3 ∧ (bw_is w a3 7 ∧ (wp_Al_size e0 mi a3 w (fun i11 w6 => (x1 < i11 → (bw_is w6 x0 5 ∧ (∃ a14 : Nat, (wR w6 x0 5) = some a14 ∧ (bw_is w6 a14 7 ∧ (wp_Al_get e0 mi a14 x1 w6 (fun r22 w17 => (∀ a24, r22 = some a24 → bw_is w17 a24 2) ∧ (∃ a25 : Nat, r22 = some a25 ∧ (bw_is w17 a25 2 ∧ (Q (wI w17 a25 0) w17))))))))) ∧ (¬ x1 < i11 → (wb_Br_order_15 e0 mi Q X x0 x1 w6 nc ns))))))))
set_option maxHeartbeats 4000000 in
set_option maxRecDepth 100000 in
theorem k_Br_order_0 {p : Program} {l : Launch} {e : Env} {s : State} {m : MethodId} {args : Array Value} {below : List Frame} {meth : Method} {c : Code} {D : va_G} {AC : Nat → ClassId} {e0 mi : Nat} {A : Nat → Prop} {mc ms : Nat} {Q : Int32 → Wd → Prop} {X : String → Wd → Prop} (C : Cx p l s m args meth c D AC e0 mi A n_Br_order b_Br_order 2 (some .int)) (x0 : Nat) (x1 : Int32) (w : Wd) (nc ns : Nat) (hq : wp_Br_order e0 mi x0 x1 w nc ns Q X) : ∀ (H : Heap) (locs : List Loc) (cells slots : Nat) (ls : Array Slot), HW D cls8 FTc AC A s.heap H locs w → lv_has ls 2 [(0, va_rf (some x0)), (1, .int x1)] → cells + nc ≤ mc → slots + ns ≤ ms → W p l e { frames := 7, cells := mc, slots := ms, locals := 103 } s m args below meth c H locs cells slots (vx_MQ below (QQ D AC A (fun v w9 => ∃ r9 : Int32, v = some (.int r9) ∧ Q r9 w9)) (XX D AC A X) args s mc ms A) (F0 m 0 ls []) := by
  obtain ⟨hl0, hx, hb, hr, ht, hown, hlocks, hnm, hml, hex, hK, hA, hZ, hV⟩ := id C
  intro H locs cells slots ls hW hl hc hs
  unfold wp_Br_order at hq
  refine lv_iload_n hx hb d_Br_order_0 rfl (lv_at hl 1 rfl) ?_
  refine lv_if_lt (tgt := 15) hx hb d_Br_order_1 (by decide) (fun c1 => ?_) (fun c1 => ?_)
  · have hq := hq.1 c1
    exact k_Br_order_15 C  _ _ _ _ _ hq _ _ _ _ _ hW (lv_sub hl [0, 1] rfl) hc hs
  · have hq := hq.2 c1
    refine lv_iload_n hx hb d_Br_order_4 rfl (lv_at hl 1 rfl) ?_
    refine bw_aload_n hx hb d_Br_order_5 rfl (lv_at hl 0 rfl) ?_
    obtain ⟨t2, hq⟩ := hq
    refine bw_getR hx hb ht in_Br hown hK hW rfl t2 (by decide) rfl 5 (by decide) rfl (ht _ m_64) (fun _ h => h) d_Br_order_6 ?_
    obtain ⟨a3, ea3, hq⟩ := hq
    obtain ⟨t4, hq⟩ := hq
    refine bw_callV (As := []) (rest := [.int x1]) C hW ci_Al_size m_91 m_92 m_93 d_Br_order_9 ea3 t4 (by decide) rfl rfl rfl hl.1 (by simp [bw_cat, cat_i, cat_j]) ⟨Nat.le_of_ble_eq_true rfl, Nat.le_of_ble_eq_true rfl⟩ ⟨Nat.le_trans (Nat.add_le_add_left (Nat.zero_le _) _) hc, Nat.le_trans (Nat.add_le_add_left (Nat.zero_le _) _) hs⟩ (c_Al_size hl0 _ _ hq) (fun _ _ _ _ _ _ h => h.elim) (fun v5 w6 H locs hv hW => ?_)
    obtain ⟨i11, rfl, hq⟩ := hv
    have hc := bw_bud0 hc
    have hs := bw_bud0 hs
    refine W.eq (g2 := F0 m 12 ls [.int i11, .int x1]) rfl ?_
    refine lv_icmp_lt (tgt := 25) hx hb d_Br_order_12 (by decide) (fun c12 => ?_) (fun c12 => ?_)
    · have hq := hq.1 c12
      refine bw_aload_n hx hb d_Br_order_25 rfl (lv_at hl 0 rfl) ?_
      obtain ⟨t13, hq⟩ := hq
      refine bw_getR hx hb ht in_Br hown hK hW rfl t13 (by decide) rfl 5 (by decide) rfl (ht _ m_64) (fun _ h => h) d_Br_order_26 ?_
      refine lv_iload_n hx hb d_Br_order_29 rfl (lv_at hl 1 rfl) ?_
      obtain ⟨a14, ea14, hq⟩ := hq
      obtain ⟨t15, hq⟩ := hq
      refine bw_callV (As := [.int x1]) (rest := []) C hW ci_Al_get m_99 m_100 m_101 d_Br_order_30 ea14 t15 (by decide) rfl rfl rfl hl.1 (by decide) ⟨Nat.le_of_ble_eq_true rfl, Nat.le_of_ble_eq_true rfl⟩ ⟨Nat.le_trans (Nat.add_le_add_left (Nat.zero_le _) _) hc, Nat.le_trans (Nat.add_le_add_left (Nat.zero_le _) _) hs⟩ (c_Al_get hl0 _ _ _ hq) (fun _ _ _ _ _ _ h => h.elim) (fun v16 w17 H locs hv hW => ?_)
      obtain ⟨r22, rfl, hq⟩ := hv
      have hc := bw_bud0 hc
      have hs := bw_bud0 hs
      refine W.eq (g2 := F0 m 33 ls [va_rf r22]) rfl ?_
      obtain ⟨h23, hq⟩ := hq
      refine bw_cast C hW m_437 (cn := 2) rfl (by decide) (by decide +kernel) h23 d_Br_order_33 ?_
      obtain ⟨a25, ea25, hq⟩ := hq
      obtain ⟨t26, hq⟩ := hq
      refine bw_getI hx hb ht in_It hown hK hW ea25 t26 (by decide) rfl 0 (by decide) rfl (ht _ m_444) (fun _ h => h) d_Br_order_36 ?_
      exact bw_iret C hW ⟨_, rfl, hq⟩ d_Br_order_39 (Nat.le_trans (Nat.le_add_right _ _) hc) (Nat.le_trans (Nat.le_add_right _ _) hs)
    · have hq := hq.2 c12
      exact k_Br_order_15 C  _ _ _ _ _ hq _ _ _ _ _ hW (lv_sub hl [0, 1] rfl) hc hs
theorem ci_Br_order : CI n_Br_order b_Br_order 2 (some .int) 1 := ⟨m_712, m_1, by decide, by decide, by decide +kernel⟩
theorem c_Br_order {l : Launch} {D : va_G} {AC : Nat → ClassId} {e0 mi : Nat} {Q : Int32 → Wd → Prop} {X : String → Wd → Prop} (hl0 : l.stackTraces = false) (x0 : Nat) (x1 : Int32) (w : Wd) (nc ns : Nat) (hq : wp_Br_order e0 mi x0 x1 w nc ns Q X) : Ct l D AC e0 mi n_Br_order (wy n_Br_order b_Br_order 2 (some .int)) 7 103 [va_rf (some x0), .int x1] w nc ns (fun v w9 => ∃ r9 : Int32, v = some (.int r9) ∧ Q r9 w9) X :=
  Ct.of hl0 (by decide) (by simp [lg_sl, bw_cat, cat_i, cat_j]) (fun p e s m args below meth c A ls C hW hl => k_Br_order_0 C x0 x1 w nc ns hq s.heap [] 0 0 ls hW (by simpa [lv_args, bw_cat, cat_i, cat_j] using hl) (Nat.le_of_eq (Nat.zero_add _)) (Nat.le_of_eq (Nat.zero_add _)))
def wp_Br_mean (e0 mi : Nat) (x0 : Nat) (w : Wd) (nc ns : Nat) (Q : Int32 → Wd → Prop) (X : String → Wd → Prop) : Prop :=
  bw_is w x0 5 ∧ (∃ a2 : Nat, (wR w x0 5) = some a2 ∧ (bw_is w a2 7 ∧ (wp_Al_size e0 mi a2 w (fun i10 w5 => (¬ i10 = 0 → (bw_is w5 x0 5 ∧ (¬ i10 = 0 ∧ (Q ((wI w5 x0 8) / i10) w5)))) ∧ (i10 = 0 → (1 ≤ nc ∧ 6 ≤ ns ∧ X "java/lang/ArithmeticException" w5))))))
set_option maxHeartbeats 4000000 in
set_option maxRecDepth 100000 in
theorem k_Br_mean_0 {p : Program} {l : Launch} {e : Env} {s : State} {m : MethodId} {args : Array Value} {below : List Frame} {meth : Method} {c : Code} {D : va_G} {AC : Nat → ClassId} {e0 mi : Nat} {A : Nat → Prop} {mc ms : Nat} {Q : Int32 → Wd → Prop} {X : String → Wd → Prop} (C : Cx p l s m args meth c D AC e0 mi A n_Br_mean b_Br_mean 2 (some .int)) (x0 : Nat) (w : Wd) (nc ns : Nat) (hq : wp_Br_mean e0 mi x0 w nc ns Q X) : ∀ (H : Heap) (locs : List Loc) (cells slots : Nat) (ls : Array Slot), HW D cls8 FTc AC A s.heap H locs w → lv_has ls 2 [(0, va_rf (some x0))] → cells + nc ≤ mc → slots + ns ≤ ms → W p l e { frames := 7, cells := mc, slots := ms, locals := 103 } s m args below meth c H locs cells slots (vx_MQ below (QQ D AC A (fun v w9 => ∃ r9 : Int32, v = some (.int r9) ∧ Q r9 w9)) (XX D AC A X) args s mc ms A) (F0 m 0 ls []) := by
  obtain ⟨hl0, hx, hb, hr, ht, hown, hlocks, hnm, hml, hex, hK, hA, hZ, hV⟩ := id C
  intro H locs cells slots ls hW hl hc hs
  unfold wp_Br_mean at hq
  refine bw_aload_n hx hb d_Br_mean_0 rfl (lv_at hl 0 rfl) ?_
  obtain ⟨t1, hq⟩ := hq
  refine bw_getR hx hb ht in_Br hown hK hW rfl t1 (by decide) rfl 5 (by decide) rfl (ht _ m_64) (fun _ h => h) d_Br_mean_1 ?_
  obtain ⟨a2, ea2, hq⟩ := hq
  obtain ⟨t3, hq⟩ := hq
  refine bw_callV (As := []) (rest := []) C hW ci_Al_size m_91 m_92 m_93 d_Br_mean_4 ea2 t3 (by decide) rfl rfl rfl hl.1 (by decide) ⟨Nat.le_of_ble_eq_true rfl, Nat.le_of_ble_eq_true rfl⟩ ⟨Nat.le_trans (Nat.add_le_add_left (Nat.zero_le _) _) hc, Nat.le_trans (Nat.add_le_add_left (Nat.zero_le _) _) hs⟩ (c_Al_size hl0 _ _ hq) (fun _ _ _ _ _ _ h => h.elim) (fun v4 w5 H locs hv hW => ?_)
  obtain ⟨i10, rfl, hq⟩ := hv
  have hc := bw_bud0 hc
  have hs := bw_bud0 hs
  refine W.eq (g2 := F0 m 7 ls [.int i10]) rfl ?_
  refine lv_istore_n (i := 1) (lv' := [(1, .int i10), (0, va_rf (some x0))]) hx hb d_Br_mean_7 rfl hl (by decide) (by simp [bw_cat, cat_i, cat_j]) (fun ls hl => ?_)
  refine lv_iload_n hx hb d_Br_mean_8 rfl (lv_at hl 0 rfl) ?_
  refine lv_if_ne (tgt := 22) hx hb d_Br_mean_9 (by decide) (fun c11 => ?_) (fun c11 => ?_)
  · have hq := hq.1 c11
    refine bw_aload_n hx hb d_Br_mean_22 rfl (lv_at hl 1 rfl) ?_
    obtain ⟨t12, hq⟩ := hq
    refine bw_getI hx hb ht in_Br hown hK hW rfl t12 (by decide) rfl 8 (by decide) rfl (ht _ m_67) (fun _ h => h) d_Br_mean_23 ?_
    refine lv_iload_n hx hb d_Br_mean_26 rfl (lv_at hl 0 rfl) ?_
    obtain ⟨h13, hq⟩ := hq
    refine lv_idiv hx hb d_Br_mean_27 h13 ?_
    exact bw_iret C hW ⟨_, rfl, hq⟩ d_Br_mean_28 (Nat.le_trans (Nat.le_add_right _ _) hc) (Nat.le_trans (Nat.le_add_right _ _) hs)
  · have hq := hq.2 c11
    obtain ⟨h14, h15, hq⟩ := hq
    exact bw_throw C hW rfl xa_Ar (ht _ m_722) (is := 219) (text := "/ by zero") (by decide +kernel) hq hl.1 h14 h15 hc hs rfl rfl (Nat.le_of_ble_eq_true rfl) (by exact Nat.le_of_ble_eq_true rfl) d_Br_mean_12 d_Br_mean_15 d_Br_mean_16 d_Br_mean_18 d_Br_mean_21
theorem ci_Br_mean : CI n_Br_mean b_Br_mean 2 (some .int) 0 := ⟨m_721, m_1, by decide, by decide, by decide +kernel⟩
theorem c_Br_mean {l : Launch} {D : va_G} {AC : Nat → ClassId} {e0 mi : Nat} {Q : Int32 → Wd → Prop} {X : String → Wd → Prop} (hl0 : l.stackTraces = false) (x0 : Nat) (w : Wd) (nc ns : Nat) (hq : wp_Br_mean e0 mi x0 w nc ns Q X) : Ct l D AC e0 mi n_Br_mean (wy n_Br_mean b_Br_mean 2 (some .int)) 7 103 [va_rf (some x0)] w nc ns (fun v w9 => ∃ r9 : Int32, v = some (.int r9) ∧ Q r9 w9) X :=
  Ct.of hl0 (by decide) (by simp [lg_sl, bw_cat, cat_i, cat_j]) (fun p e s m args below meth c A ls C hW hl => k_Br_mean_0 C x0 w nc ns hq s.heap [] 0 0 ls hW (by simpa [lv_args, bw_cat, cat_i, cat_j] using hl) (Nat.le_of_eq (Nat.zero_add _)) (Nat.le_of_eq (Nat.zero_add _)))
