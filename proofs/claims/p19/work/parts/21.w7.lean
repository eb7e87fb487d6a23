/-! printed by wip/gen/walk.py out of the bytecode: La_belt La_join La_run La_gaps La_scanner La_item La_divert La_step La_edge La_slip La_take La_clean La_gap La_told La_known La_order La_mean -/
def wp_La_belt (e0 mi : Nat) (x0 : Option Nat) (x1 : Int32) (x2 : Int32) (x3 : Option Nat) (w : Wd) (nc ns : Nat) (Q : Int32 → Wd → Prop) : Prop :=
  ∃ a1 : Nat, x0 = some a1 ∧ (bw_is w a1 5 ∧ (∃ k5 k6 : Nat, k5 ≤ nc ∧ k6 ≤ ns ∧ wp_Br_belt e0 mi a1 x1 x2 w k5 k6 (fun i9 w4 => ∃ a10 : Nat, x3 = some a10 ∧ (bw_is w4 a10 102 ∧ (vp_in (0 : Int32) (wN w4 a10) ∧ (Q (0 : Int32) (sJ w4 a10 (0 : Int32).toNatClampNeg i9.toInt64))))) (fun E9 w14 => (E9 = "java/lang/IllegalArgumentException" ∧ (Q (1 : Int32) w14)) ∨ (E9 = "java/lang/UnsupportedOperationException" ∧ (Q (2 : Int32) w14)))))
set_option maxHeartbeats 4000000 in
set_option maxRecDepth 100000 in
theorem k_La_belt_0 {p : Program} {l : Launch} {e : Env} {s : State} {m : MethodId} {args : Array Value} {below : List Frame} {meth : Method} {c : Code} {D : va_G} {AC : Nat → ClassId} {e0 mi : Nat} {A : Nat → Prop} {mc ms : Nat} {Q : Int32 → Wd → Prop} (C : CxT [⟨0, 10, 13, 13⟩, ⟨0, 10, 17, 15⟩] p l s m args meth c D AC e0 mi A n_La_belt b_La_belt 5 (some .int)) (x0 : Option Nat) (x1 : Int32) (x2 : Int32) (x3 : Option Nat) (w : Wd) (nc ns : Nat) (hq : wp_La_belt e0 mi x0 x1 x2 x3 w nc ns Q) : ∀ (H : Heap) (locs : List Loc) (cells slots : Nat) (ls : Array Slot), HW D cls8 FTc AC A s.heap H locs w → lv_has ls 5 [(0, va_rf x0), (1, .int x1), (2, .int x2), (3, va_rf x3)] → cells + nc ≤ mc → slots + ns ≤ ms → W p l e { frames := 9, cells := mc, slots := ms, locals := 194 } s m args below meth c H locs cells slots (vx_MQ below (QQ D AC A (fun v w9 => ∃ r9 : Int32, v = some (.int r9) ∧ Q r9 w9)) (XX D AC A (fun _ _ => False)) args s mc ms A) (F0 m 0 ls []) := by
  obtain ⟨hl0, hx, hb, hr, ht, hown, hlocks, hnm, hml, hex, hK, hA, hZ, hV⟩ := id C
  intro H locs cells slots ls hW hl hc hs
  unfold wp_La_belt at hq
  refine bw_aload_n hx hb d_La_belt_0 rfl (lv_at hl 3 rfl) ?_
  refine lv_iconst (v := 0) hx hb d_La_belt_1 (by decide) ?_
  refine bw_aload_n hx hb d_La_belt_2 rfl (lv_at hl 0 rfl) ?_
  refine lv_iload_n hx hb d_La_belt_3 rfl (lv_at hl 1 rfl) ?_
  refine lv_iload_n hx hb d_La_belt_4 rfl (lv_at hl 2 rfl) ?_
  obtain ⟨a1, ea1, hq⟩ := hq
  obtain ⟨t2, hq⟩ := hq
  obtain ⟨k5, k6, h7, h8, hq⟩ := hq
  refine bw_callV (As := [.int x1, .int x2]) (rest := [.int (0 : Int32), va_rf x3]) C hW ci_Br_belt m_119 m_120 m_121 d_La_belt_5 ea1 t2 (by decide) rfl rfl rfl hl.1 (by simp [bw_cat, cat_i, cat_j]) ⟨Nat.le_of_ble_eq_true rfl, Nat.le_of_ble_eq_true rfl⟩ ⟨Nat.le_trans (Nat.add_le_add_left h7 _) hc, Nat.le_trans (Nat.add_le_add_left h8 _) hs⟩ (c_Br_belt hl0 _ _ _ _ _ _ hq) ?_ (fun v3 w4 H locs hv hW => ?_)
  · intro E9 ce9 q13 w14 H locs hx9 hW g1 g2 g3
    have hc := bw_bud hc h7
    have hs := bw_bud hs h8
    rcases hx9 with ⟨rfl, hq⟩ | ⟨rfl, hq⟩
    · refine bw_catch C (name := "java/lang/IllegalArgumentException") [] ⟨0, 10, 13, 13⟩ [⟨0, 10, 17, 15⟩] rfl (fun z hz => nomatch hz) (by decide) (by decide) m_117 (by decide +kernel) g1 g2 g3 ?_
      refine W.eq (g2 := F0 m 13 ls [va_rf (some q13)]) rfl ?_
      refine bw_astore (lv' := [(4, va_rf (some q13)), (0, va_rf x0), (1, .int x1), (2, .int x2), (3, va_rf x3)]) hx hb d_La_belt_13 hl (by decide) (by simp [bw_cat, cat_i, cat_j]) (fun ls hl => ?_)
      refine lv_iconst (v := 1) hx hb d_La_belt_15 (by decide) ?_
      exact bw_iret C hW ⟨_, rfl, hq⟩ d_La_belt_16 (Nat.le_trans (Nat.le_add_right _ _) hc) (Nat.le_trans (Nat.le_add_right _ _) hs)
    · refine bw_catch C (name := "java/lang/UnsupportedOperationException") [⟨0, 10, 13, 13⟩] ⟨0, 10, 17, 15⟩ [] rfl (by intro z hz; simp only [List.mem_cons, List.not_mem_nil, or_false] at hz; subst hz; · exact Or.inr ⟨by decide, "java/lang/IllegalArgumentException", m_117, by decide +kernel⟩) (by decide) (by decide) m_118 (by decide +kernel) g1 g2 g3 ?_
      refine W.eq (g2 := F0 m 17 ls [va_rf (some q13)]) rfl ?_
      refine bw_astore (lv' := [(4, va_rf (some q13)), (0, va_rf x0), (1, .int x1), (2, .int x2), (3, va_rf x3)]) hx hb d_La_belt_17 hl (by decide) (by simp [bw_cat, cat_i, cat_j]) (fun ls hl => ?_)
      refine lv_iconst (v := 2) hx hb d_La_belt_19 (by decide) ?_
      exact bw_iret C hW ⟨_, rfl, hq⟩ d_La_belt_20 (Nat.le_trans (Nat.le_add_right _ _) hc) (Nat.le_trans (Nat.le_add_right _ _) hs)
  · obtain ⟨i9, rfl, hq⟩ := hv
    have hc := bw_bud hc h7
    have hs := bw_bud hs h8
    refine W.eq (g2 := F0 m 8 ls [.int i9, .int (0 : Int32), va_rf x3]) rfl ?_
    refine lv_i2l hx hb d_La_belt_8 rfl ?_
    obtain ⟨a10, ea10, hq⟩ := hq
    obtain ⟨t11, hq⟩ := hq
    obtain ⟨h12, hq⟩ := hq
    refine bw_last C hW ea10 t11 h12 d_La_belt_9 (fun H locs hW => ?_)
    refine lv_goto (tgt := 21) hx hb d_La_belt_10 (by decide) ?_
    refine lv_iconst (v := 0) hx hb d_La_belt_21 (by decide) ?_
    exact bw_iret C hW ⟨_, rfl, hq⟩ d_La_belt_22 (Nat.le_trans (Nat.le_add_right _ _) hc) (Nat.le_trans (Nat.le_add_right _ _) hs)
theorem c_La_belt {l : Launch} {D : va_G} {AC : Nat → ClassId} {e0 mi : Nat} {Q : Int32 → Wd → Prop} (hl0 : l.stackTraces = false) (x0 : Option Nat) (x1 : Int32) (x2 : Int32) (x3 : Option Nat) (w : Wd) (nc ns : Nat) (hq : wp_La_belt e0 mi x0 x1 x2 x3 w nc ns Q) : Ct l D AC e0 mi n_La_belt (wyW n_La_belt b_La_belt 5 (some .int) [(0, 10, 13, 13), (0, 10, 17, 15)]) 9 194 [va_rf x0, .int x1, .int x2, va_rf x3] w nc ns (fun v w9 => ∃ r9 : Int32, v = some (.int r9) ∧ Q r9 w9) (fun _ _ => False) :=
  Ct.ofH hl0 (by decide) (by simp [lg_sl, bw_cat, cat_i, cat_j]) rfl (fun p e s m args below meth c A ls C hW hl => k_La_belt_0 C x0 x1 x2 x3 w nc ns hq s.heap [] 0 0 ls hW (by simpa [lv_args, bw_cat, cat_i, cat_j] using hl) (Nat.le_of_eq (Nat.zero_add _)) (Nat.le_of_eq (Nat.zero_add _)))
def wp_La_join (e0 mi : Nat) (x0 : Option Nat) (x1 : Int32) (x2 : Int32) (x3 : Int32) (x4 : Int32) (x5 : Option Nat) (w : Wd) (nc ns : Nat) (Q : Int32 → Wd → Prop) : Prop :=
  ∃ a1 : Nat, x0 = some a1 ∧ (bw_is w a1 5 ∧ (∃ k5 k6 : Nat, k5 ≤ nc ∧ k6 ≤ ns ∧ wp_Br_join e0 mi a1 x1 x2 x3 x4 w k5 k6 (fun i9 w4 => ∃ a10 : Nat, x5 = some a10 ∧ (bw_is w4 a10 102 ∧ (vp_in (0 : Int32) (wN w4 a10) ∧ (Q (0 : Int32) (sJ w4 a10 (0 : Int32).toNatClampNeg i9.toInt64))))) (fun E9 w14 => (E9 = "java/util/NoSuchElementException" ∧ (Q (1 : Int32) w14)) ∨ (E9 = "java/lang/IllegalArgumentException" ∧ (Q (2 : Int32) w14)))))
set_option maxHeartbeats 4000000 in
set_option maxRecDepth 100000 in
theorem k_La_join_0 {p : Program} {l : Launch} {e : Env} {s : State} {m : MethodId} {args : Array Value} {below : List Frame} {meth : Method} {c : Code} {D : va_G} {AC : Nat → ClassId} {e0 mi : Nat} {A : Nat → Prop} {mc ms : Nat} {Q : Int32 → Wd → Prop} (C : CxT [⟨0, 14, 17, 21⟩, ⟨0, 14, 21, 13⟩] p l s m args meth c D AC e0 mi A n_La_join b_La_join 7 (some .int)) (x0 : Option Nat) (x1 : Int32) (x2 : Int32) (x3 : Int32) (x4 : Int32) (x5 : Option Nat) (w : Wd) (nc ns : Nat) (hq : wp_La_join e0 mi x0 x1 x2 x3 x4 x5 w nc ns Q) : ∀ (H : Heap) (locs : List Loc) (cells slots : Nat) (ls : Array Slot), HW D cls8 FTc AC A s.heap H locs w → lv_has ls 7 [(0, va_rf x0), (1, .int x1), (2, .int x2), (3, .int x3), (4, .int x4), (5, va_rf x5)] → cells + nc ≤ mc → slots + ns ≤ ms → W p l e { frames := 9, cells := mc, slots := ms, locals := 151 } s m args below meth c H locs cells slots (vx_MQ below (QQ D AC A (fun v w9 => ∃ r9 : Int32, v = some (.int r9) ∧ Q r9 w9)) (XX D AC A (fun _ _ => False)) args s mc ms A) (F0 m 0 ls []) := by
  obtain ⟨hl0, hx, hb, hr, ht, hown, hlocks, hnm, hml, hex, hK, hA, hZ, hV⟩ := id C
  intro H locs cells slots ls hW hl hc hs
  unfold wp_La_join at hq
  refine bw_aload hx hb d_La_join_0 (lv_at hl 5 rfl) ?_
  refine lv_iconst (v := 0) hx hb d_La_join_2 (by decide) ?_
  refine bw_aload_n hx hb d_La_join_3 rfl (lv_at hl 0 rfl) ?_
  refine lv_iload_n hx hb d_La_join_4 rfl (lv_at hl 1 rfl) ?_
  refine lv_iload_n hx hb d_La_join_5 rfl (lv_at hl 2 rfl) ?_
  refine lv_iload_n hx hb d_La_join_6 rfl (lv_at hl 3 rfl) ?_
  refine lv_iload hx hb d_La_join_7 (lv_at hl 4 rfl) ?_
  obtain ⟨a1, ea1, hq⟩ := hq
  obtain ⟨t2, hq⟩ := hq
  obtain ⟨k5, k6, h7, h8, hq⟩ := hq
  refine bw_callV (As := [.int x1, .int x2, .int x3, .int x4]) (rest := [.int (0 : Int32), va_rf x5]) C hW ci_Br_join m_338 m_339 m_340 d_La_join_9 ea1 t2 (by decide) rfl rfl rfl hl.1 (by simp [bw_cat, cat_i, cat_j]) ⟨Nat.le_of_ble_eq_true rfl, Nat.le_of_ble_eq_true rfl⟩ ⟨Nat.le_trans (Nat.add_le_add_left h7 _) hc, Nat.le_trans (Nat.add_le_add_left h8 _) hs⟩ (c_Br_join hl0 _ _ _ _ _ _ _ _ hq) ?_ (fun v3 w4 H locs hv hW => ?_)
  · intro E9 ce9 q13 w14 H locs hx9 hW g1 g2 g3
    have hc := bw_bud hc h7
    have hs := bw_bud hs h8
    rcases hx9 with ⟨rfl, hq⟩ | ⟨rfl, hq⟩
    · refine bw_catch C (name := "java/util/NoSuchElementException") [] ⟨0, 14, 17, 21⟩ [⟨0, 14, 21, 13⟩] rfl (fun z hz => nomatch hz) (by decide) (by decide) m_337 (by decide +kernel) g1 g2 g3 ?_
      refine W.eq (g2 := F0 m 17 ls [va_rf (some q13)]) rfl ?_
      refine bw_astore (lv' := [(6, va_rf (some q13)), (0, va_rf x0), (1, .int x1), (2, .int x2), (3, .int x3), (4, .int x4), (5, va_rf x5)]) hx hb d_La_join_17 hl (by decide) (by simp [bw_cat, cat_i, cat_j]) (fun ls hl => ?_)
      refine lv_iconst (v := 1) hx hb d_La_join_19 (by decide) ?_
      exact bw_iret C hW ⟨_, rfl, hq⟩ d_La_join_20 (Nat.le_trans (Nat.le_add_right _ _) hc) (Nat.le_trans (Nat.le_add_right _ _) hs)
    · refine bw_catch C (name := "java/lang/IllegalArgumentException") [⟨0, 14, 17, 21⟩] ⟨0, 14, 21, 13⟩ [] rfl (by intro z hz; simp only [List.mem_cons, List.not_mem_nil, or_false] at hz; subst hz; · exact Or.inr ⟨by decide, "java/util/NoSuchElementException", m_337, by decide +kernel⟩) (by decide) (by decide) m_117 (by decide +kernel) g1 g2 g3 ?_
      refine W.eq (g2 := F0 m 21 ls [va_rf (some q13)]) rfl ?_
      refine bw_astore (lv' := [(6, va_rf (some q13)), (0, va_rf x0), (1, .int x1), (2, .int x2), (3, .int x3), (4, .int x4), (5, va_rf x5)]) hx hb d_La_join_21 hl (by decide) (by simp [bw_cat, cat_i, cat_j]) (fun ls hl => ?_)
      refine lv_iconst (v := 2) hx hb d_La_join_23 (by decide) ?_
      exact bw_iret C hW ⟨_, rfl, hq⟩ d_La_join_24 (Nat.le_trans (Nat.le_add_right _ _) hc) (Nat.le_trans (Nat.le_add_right _ _) hs)
  · obtain ⟨i9, rfl, hq⟩ := hv
    have hc := bw_bud hc h7
    have hs := bw_bud hs h8
    refine W.eq (g2 := F0 m 12 ls [.int i9, .int (0 : Int32), va_rf x5]) rfl ?_
    refine lv_i2l hx hb d_La_join_12 rfl ?_
    obtain ⟨a10, ea10, hq⟩ := hq
    obtain ⟨t11, hq⟩ := hq
    obtain ⟨h12, hq⟩ := hq
    refine bw_last C hW ea10 t11 h12 d_La_join_13 (fun H locs hW => ?_)
    refine lv_goto (tgt := 25) hx hb d_La_join_14 (by decide) ?_
    refine lv_iconst (v := 0) hx hb d_La_join_25 (by decide) ?_
    exact bw_iret C hW ⟨_, rfl, hq⟩ d_La_join_26 (Nat.le_trans (Nat.le_add_right _ _) hc) (Nat.le_trans (Nat.le_add_right _ _) hs)
theorem c_La_join {l : Launch} {D : va_G} {AC : Nat → ClassId} {e0 mi : Nat} {Q : Int32 → Wd → Prop} (hl0 : l.stackTraces = false) (x0 : Option Nat) (x1 : Int32) (x2 : Int32) (x3 : Int32) (x4 : Int32) (x5 : Option Nat) (w : Wd) (nc ns : Nat) (hq : wp_La_join e0 mi x0 x1 x2 x3 x4 x5 w nc ns Q) : Ct l D AC e0 mi n_La_join (wyW n_La_join b_La_join 7 (some .int) [(0, 14, 17, 21), (0, 14, 21, 13)]) 9 151 [va_rf x0, .int x1, .int x2, .int x3, .int x4, va_rf x5] w nc ns (fun v w9 => ∃ r9 : Int32, v = some (.int r9) ∧ Q r9 w9) (fun _ _ => False) :=
  Ct.ofH hl0 (by decide) (by simp [lg_sl, bw_cat, cat_i, cat_j]) rfl (fun p e s m args below meth c A ls C hW hl => k_La_join_0 C x0 x1 x2 x3 x4 x5 w nc ns hq s.heap [] 0 0 ls hW (by simpa [lv_args, bw_cat, cat_i, cat_j] using hl) (Nat.le_of_eq (Nat.zero_add _)) (Nat.le_of_eq (Nat.zero_add _)))
def wp_La_run (e0 mi : Nat) (x0 : Option Nat) (x1 : Int32) (x2 : Int32) (x3 : Int32) (w : Wd) (nc ns : Nat) (Q : Int32 → Wd → Prop) : Prop :=
  ∃ a1 : Nat, x0 = some a1 ∧ (bw_is w a1 5 ∧ (∃ k5 k6 : Nat, k5 ≤ nc ∧ k6 ≤ ns ∧ wp_Br_run e0 mi a1 x1 x2 x3 w k5 k6 (fun w4 => Q (0 : Int32) w4) (fun E9 w11 => (E9 = "java/util/NoSuchElementException" ∧ (Q (1 : Int32) w11)) ∨ (E9 = "java/lang/IllegalArgumentException" ∧ (Q (2 : Int32) w11)))))
set_option maxHeartbeats 4000000 in
set_option maxRecDepth 100000 in
theorem k_La_run_0 {p : Program} {l : Launch} {e : Env} {s : State} {m : MethodId} {args : Array Value} {below : List Frame} {meth : Method} {c : Code} {D : va_G} {AC : Nat → ClassId} {e0 mi : Nat} {A : Nat → Prop} {mc ms : Nat} {Q : Int32 → Wd → Prop} (C : CxT [⟨0, 7, 10, 21⟩, ⟨0, 7, 14, 13⟩] p l s m args meth c D AC e0 mi A n_La_run b_La_run 5 (some .int)) (x0 : Option Nat) (x1 : Int32) (x2 : Int32) (x3 : Int32) (w : Wd) (nc ns : Nat) (hq : wp_La_run e0 mi x0 x1 x2 x3 w nc ns Q) : ∀ (H : Heap) (locs : List Loc) (cells slots : Nat) (ls : Array Slot), HW D cls8 FTc AC A s.heap H locs w → lv_has ls 5 [(0, va_rf x0), (1, .int x1), (2, .int x2), (3, .int x3)] → cells + nc ≤ mc → slots + ns ≤ ms → W p l e { frames := 9, cells := mc, slots := ms, locals := 149 } s m args below meth c H locs cells slots (vx_MQ below (QQ D AC A (fun v w9 => ∃ r9 : Int32, v = some (.int r9) ∧ Q r9 w9)) (XX D AC A (fun _ _ => False)) args s mc ms A) (F0 m 0 ls []) := by
  obtain ⟨hl0, hx, hb, hr, ht, hown, hlocks, hnm, hml, hex, hK, hA, hZ, hV⟩ := id C
  intro H locs cells slots ls hW hl hc hs
  unfold wp_La_run at hq
  refine bw_aload_n hx hb d_La_run_0 rfl (lv_at hl 0 rfl) ?_
  refine lv_iload_n hx hb d_La_run_1 rfl (lv_at hl 1 rfl) ?_
  refine lv_iload_n hx hb d_La_run_2 rfl (lv_at hl 2 rfl) ?_
  refine lv_iload_n hx hb d_La_run_3 rfl (lv_at hl 3 rfl) ?_
  obtain ⟨a1, ea1, hq⟩ := hq
  obtain ⟨t2, hq⟩ := hq
  obtain ⟨k5, k6, h7, h8, hq⟩ := hq
  refine bw_callV (As := [.int x1, .int x2, .int x3]) (rest := []) C hW ci_Br_run m_378 m_379 m_380 d_La_run_4 ea1 t2 (by decide) rfl rfl rfl hl.1 (by decide) ⟨Nat.le_of_ble_eq_true rfl, Nat.le_of_ble_eq_true rfl⟩ ⟨Nat.le_trans (Nat.add_le_add_left h7 _) hc, Nat.le_trans (Nat.add_le_add_left h8 _) hs⟩ (c_Br_run hl0 _ _ _ _ _ _ _ hq) ?_ (fun v3 w4 H locs hv hW => ?_)
  · intro E9 ce9 q10 w11 H locs hx9 hW g1 g2 g3
    have hc := bw_bud hc h7
    have hs := bw_bud hs h8
    rcases hx9 with ⟨rfl, hq⟩ | ⟨rfl, hq⟩
    · refine bw_catch C (name := "java/util/NoSuchElementException") [] ⟨0, 7, 10, 21⟩ [⟨0, 7, 14, 13⟩] rfl (fun z hz => nomatch hz) (by decide) (by decide) m_337 (by decide +kernel) g1 g2 g3 ?_
      refine W.eq (g2 := F0 m 10 ls [va_rf (some q10)]) rfl ?_
      refine bw_astore (lv' := [(4, va_rf (some q10)), (0, va_rf x0), (1, .int x1), (2, .int x2), (3, .int x3)]) hx hb d_La_run_10 hl (by decide) (by simp [bw_cat, cat_i, cat_j]) (fun ls hl => ?_)
      refine lv_iconst (v := 1) hx hb d_La_run_12 (by decide) ?_
      exact bw_iret C hW ⟨_, rfl, hq⟩ d_La_run_13 (Nat.le_trans (Nat.le_add_right _ _) hc) (Nat.le_trans (Nat.le_add_right _ _) hs)
    · refine bw_catch C (name := "java/lang/IllegalArgumentException") [⟨0, 7, 10, 21⟩] ⟨0, 7, 14, 13⟩ [] rfl (by intro z hz; simp only [List.mem_cons, List.not_mem_nil, or_false] at hz; subst hz; · exact Or.inr ⟨by decide, "java/util/NoSuchElementException", m_337, by decide +kernel⟩) (by decide) (by decide) m_117 (by decide +kernel) g1 g2 g3 ?_
      refine W.eq (g2 := F0 m 14 ls [va_rf (some q10)]) rfl ?_
      refine bw_astore (lv' := [(4, va_rf (some q10)), (0, va_rf x0), (1, .int x1), (2, .int x2), (3, .int x3)]) hx hb d_La_run_14 hl (by decide) (by simp [bw_cat, cat_i, cat_j]) (fun ls hl => ?_)
      refine lv_iconst (v := 2) hx hb d_La_run_16 (by decide) ?_
      exact bw_iret C hW ⟨_, rfl, hq⟩ d_La_run_17 (Nat.le_trans (Nat.le_add_right _ _) hc) (Nat.le_trans (Nat.le_add_right _ _) hs)
  · obtain ⟨rfl, hq⟩ := hv
    have hc := bw_bud hc h7
    have hs := bw_bud hs h8
    refine W.eq (g2 := F0 m 7 ls []) rfl ?_
    refine lv_goto (tgt := 18) hx hb d_La_run_7 (by decide) ?_
    refine lv_iconst (v := 0) hx hb d_La_run_18 (by decide) ?_
    exact bw_iret C hW ⟨_, rfl, hq⟩ d_La_run_19 (Nat.le_trans (Nat.le_add_right _ _) hc) (Nat.le_trans (Nat.le_add_right _ _) hs)
theorem c_La_run {l : Launch} {D : va_G} {AC : Nat → ClassId} {e0 mi : Nat} {Q : Int32 → Wd → Prop} (hl0 : l.stackTraces = false) (x0 : Option Nat) (x1 : Int32) (x2 : Int32) (x3 : Int32) (w : Wd) (nc ns : Nat) (hq : wp_La_run e0 mi x0 x1 x2 x3 w nc ns Q) : Ct l D AC e0 mi n_La_run (wyW n_La_run b_La_run 5 (some .int) [(0, 7, 10, 21), (0, 7, 14, 13)]) 9 149 [va_rf x0, .int x1, .int x2, .int x3] w nc ns (fun v w9 => ∃ r9 : Int32, v = some (.int r9) ∧ Q r9 w9) (fun _ _ => False) :=
  Ct.ofH hl0 (by decide) (by simp [lg_sl, bw_cat, cat_i, cat_j]) rfl (fun p e s m args below meth c A ls C hW hl => k_La_run_0 C x0 x1 x2 x3 w nc ns hq s.heap [] 0 0 ls hW (by simpa [lv_args, bw_cat, cat_i, cat_j] using hl) (Nat.le_of_eq (Nat.zero_add _)) (Nat.le_of_eq (Nat.zero_add _)))
def wp_La_gaps (e0 mi : Nat) (x0 : Option Nat) (x1 : Int32) (w : Wd) (nc ns : Nat) (Q : Int32 → Wd → Prop) : Prop :=
  ∃ a1 : Nat, x0 = some a1 ∧ (bw_is w a1 5 ∧ (∃ k5 k6 : Nat, k5 ≤ nc ∧ k6 ≤ ns ∧ wp_Br_gaps e0 mi a1 x1 w k5 k6 (fun w4 => Q (0 : Int32) w4) (fun E9 w11 => (E9 = "java/lang/IllegalArgumentException" ∧ (Q (1 : Int32) w11)))))
set_option maxHeartbeats 4000000 in
set_option maxRecDepth 100000 in
theorem k_La_gaps_0 {p : Program} {l : Launch} {e : Env} {s : State} {m : MethodId} {args : Array Value} {below : List Frame} {meth : Method} {c : Code} {D : va_G} {AC : Nat → ClassId} {e0 mi : Nat} {A : Nat → Prop} {mc ms : Nat} {Q : Int32 → Wd → Prop} (C : CxT [⟨0, 5, 8, 13⟩] p l s m args meth c D AC e0 mi A n_La_gaps b_La_gaps 3 (some .int)) (x0 : Option Nat) (x1 : Int32) (w : Wd) (nc ns : Nat) (hq : wp_La_gaps e0 mi x0 x1 w nc ns Q) : ∀ (H : Heap) (locs : List Loc) (cells slots : Nat) (ls : Array Slot), HW D cls8 FTc AC A s.heap H locs w → lv_has ls 3 [(0, va_rf x0), (1, .int x1)] → cells + nc ≤ mc → slots + ns ≤ ms → W p l e { frames := 9, cells := mc, slots := ms, locals := 146 } s m args below meth c H locs cells slots (vx_MQ below (QQ D AC A (fun v w9 => ∃ r9 : Int32, v = some (.int r9) ∧ Q r9 w9)) (XX D AC A (fun _ _ => False)) args s mc ms A) (F0 m 0 ls []) := by
  obtain ⟨hl0, hx, hb, hr, ht, hown, hlocks, hnm, hml, hex, hK, hA, hZ, hV⟩ := id C
  intro H locs cells slots ls hW hl hc hs
  unfold wp_La_gaps at hq
  refine bw_aload_n hx hb d_La_gaps_0 rfl (lv_at hl 0 rfl) ?_
  refine lv_iload_n hx hb d_La_gaps_1 rfl (lv_at hl 1 rfl) ?_
  obtain ⟨a1, ea1, hq⟩ := hq
  obtain ⟨t2, hq⟩ := hq
  obtain ⟨k5, k6, h7, h8, hq⟩ := hq
  refine bw_callV (As := [.int x1]) (rest := []) C hW ci_Br_gaps m_385 m_386 m_387 d_La_gaps_2 ea1 t2 (by decide) rfl rfl rfl hl.1 (by decide) ⟨Nat.le_of_ble_eq_true rfl, Nat.le_of_ble_eq_true rfl⟩ ⟨Nat.le_trans (Nat.add_le_add_left h7 _) hc, Nat.le_trans (Nat.add_le_add_left h8 _) hs⟩ (c_Br_gaps hl0 _ _ _ _ _ hq) ?_ (fun v3 w4 H locs hv hW => ?_)
  · intro E9 ce9 q10 w11 H locs hx9 hW g1 g2 g3
    have hc := bw_bud hc h7
    have hs := bw_bud hs h8
    rcases hx9 with ⟨rfl, hq⟩
    · refine bw_catch C (name := "java/lang/IllegalArgumentException") [] ⟨0, 5, 8, 13⟩ [] rfl (fun z hz => nomatch hz) (by decide) (by decide) m_117 (by decide +kernel) g1 g2 g3 ?_
      refine W.eq (g2 := F0 m 8 ls [va_rf (some q10)]) rfl ?_
      refine bw_astore_n (i := 2) (lv' := [(2, va_rf (some q10)), (0, va_rf x0), (1, .int x1)]) hx hb d_La_gaps_8 rfl hl (by decide) (by simp [bw_cat, cat_i, cat_j]) (fun ls hl => ?_)
      refine lv_iconst (v := 1) hx hb d_La_gaps_9 (by decide) ?_
      exact bw_iret C hW ⟨_, rfl, hq⟩ d_La_gaps_10 (Nat.le_trans (Nat.le_add_right _ _) hc) (Nat.le_trans (Nat.le_add_right _ _) hs)
  · obtain ⟨rfl, hq⟩ := hv
    have hc := bw_bud hc h7
    have hs := bw_bud hs h8
    refine W.eq (g2 := F0 m 5 ls []) rfl ?_
    refine lv_goto (tgt := 11) hx hb d_La_gaps_5 (by decide) ?_
    refine lv_iconst (v := 0) hx hb d_La_gaps_11 (by decide) ?_
    exact bw_iret C hW ⟨_, rfl, hq⟩ d_La_gaps_12 (Nat.le_trans (Nat.le_add_right _ _) hc) (Nat.le_trans (Nat.le_add_right _ _) hs)
theorem c_La_gaps {l : Launch} {D : va_G} {AC : Nat → ClassId} {e0 mi : Nat} {Q : Int32 → Wd → Prop} (hl0 : l.stackTraces = false) (x0 : Option Nat) (x1 : Int32) (w : Wd) (nc ns : Nat) (hq : wp_La_gaps e0 mi x0 x1 w nc ns Q) : Ct l D AC e0 mi n_La_gaps (wyW n_La_gaps b_La_gaps 3 (some .int) [(0, 5, 8, 13)]) 9 146 [va_rf x0, .int x1] w nc ns (fun v w9 => ∃ r9 : Int32, v = some (.int r9) ∧ Q r9 w9) (fun _ _ => False) :=
  Ct.ofH hl0 (by decide) (by simp [lg_sl, bw_cat, cat_i, cat_j]) rfl (fun p e s m args below meth c A ls C hW hl => k_La_gaps_0 C x0 x1 w nc ns hq s.heap [] 0 0 ls hW (by simpa [lv_args, bw_cat, cat_i, cat_j] using hl) (Nat.le_of_eq (Nat.zero_add _)) (Nat.le_of_eq (Nat.zero_add _)))
def wp_La_scanner (e0 mi : Nat) (x0 : Option Nat) (x1 : Int32) (x2 : Int32) (x3 : Int32) (x4 : Option Nat) (w : Wd) (nc ns : Nat) (Q : Int32 → Wd → Prop) : Prop :=
  ∃ a1 : Nat, x0 = some a1 ∧ (bw_is w a1 5 ∧ (∃ k5 k6 : Nat, k5 ≤ nc ∧ k6 ≤ ns ∧ wp_Br_scanner e0 mi a1 x1 x2 x3 w k5 k6 (fun i9 w4 => ∃ a10 : Nat, x4 = some a10 ∧ (bw_is w4 a10 102 ∧ (vp_in (0 : Int32) (wN w4 a10) ∧ (Q (0 : Int32) (sJ w4 a10 (0 : Int32).toNatClampNeg i9.toInt64))))) (fun E9 w14 => (E9 = "java/util/NoSuchElementException" ∧ (Q (1 : Int32) w14)) ∨ (E9 = "java/lang/IllegalArgumentException" ∧ (Q (2 : Int32) w14)) ∨ (E9 = "java/lang/UnsupportedOperationException" ∧ (Q (3 : Int32) w14)))))
set_option maxHeartbeats 4000000 in
set_option maxRecDepth 100000 in
theorem k_La_scanner_0 {p : Program} {l : Launch} {e : Env} {s : State} {m : MethodId} {args : Array Value} {below : List Frame} {meth : Method} {c : Code} {D : va_G} {AC : Nat → ClassId} {e0 mi : Nat} {A : Nat → Prop} {mc ms : Nat} {Q : Int32 → Wd → Prop} (C : CxT [⟨0, 12, 15, 21⟩, ⟨0, 12, 19, 13⟩, ⟨0, 12, 23, 15⟩] p l s m args meth c D AC e0 mi A n_La_scanner b_La_scanner 6 (some .int)) (x0 : Option Nat) (x1 : Int32) (x2 : Int32) (x3 : Int32) (x4 : Option Nat) (w : Wd) (nc ns : Nat) (hq : wp_La_scanner e0 mi x0 x1 x2 x3 x4 w nc ns Q) : ∀ (H : Heap) (locs : List Loc) (cells slots : Nat) (ls : Array Slot), HW D cls8 FTc AC A s.heap H locs w → lv_has ls 6 [(0, va_rf x0), (1, .int x1), (2, .int x2), (3, .int x3), (4, va_rf x4)] → cells + nc ≤ mc → slots + ns ≤ ms → W p l e { frames := 9, cells := mc, slots := ms, locals := 196 } s m args below meth c H locs cells slots (vx_MQ below (QQ D AC A (fun v w9 => ∃ r9 : Int32, v = some (.int r9) ∧ Q r9 w9)) (XX D AC A (fun _ _ => False)) args s mc ms A) (F0 m 0 ls []) := by
  obtain ⟨hl0, hx, hb, hr, ht, hown, hlocks, hnm, hml, hex, hK, hA, hZ, hV⟩ := id C
  intro H locs cells slots ls hW hl hc hs
  unfold wp_La_scanner at hq
  refine bw_aload hx hb d_La_scanner_0 (lv_at hl 4 rfl) ?_
  refine lv_iconst (v := 0) hx hb d_La_scanner_2 (by decide) ?_
  refine bw_aload_n hx hb d_La_scanner_3 rfl (lv_at hl 0 rfl) ?_
  refine lv_iload_n hx hb d_La_scanner_4 rfl (lv_at hl 1 rfl) ?_
  refine lv_iload_n hx hb d_La_scanner_5 rfl (lv_at hl 2 rfl) ?_
  refine lv_iload_n hx hb d_La_scanner_6 rfl (lv_at hl 3 rfl) ?_
  obtain ⟨a1, ea1, hq⟩ := hq
  obtain ⟨t2, hq⟩ := hq
  obtain ⟨k5, k6, h7, h8, hq⟩ := hq
  refine bw_callV (As := [.int x1, .int x2, .int x3]) (rest := [.int (0 : Int32), va_rf x4]) C hW ci_Br_scanner m_392 m_393 m_394 d_La_scanner_7 ea1 t2 (by decide) rfl rfl rfl hl.1 (by simp [bw_cat, cat_i, cat_j]) ⟨Nat.le_of_ble_eq_true rfl, Nat.le_of_ble_eq_true rfl⟩ ⟨Nat.le_trans (Nat.add_le_add_left h7 _) hc, Nat.le_trans (Nat.add_le_add_left h8 _) hs⟩ (c_Br_scanner hl0 _ _ _ _ _ _ _ hq) ?_ (fun v3 w4 H locs hv hW => ?_)
  · intro E9 ce9 q13 w14 H locs hx9 hW g1 g2 g3
    have hc := bw_bud hc h7
    have hs := bw_bud hs h8
    rcases hx9 with ⟨rfl, hq⟩ | ⟨rfl, hq⟩ | ⟨rfl, hq⟩
    · refine bw_catch C (name := "java/util/NoSuchElementException") [] ⟨0, 12, 15, 21⟩ [⟨0, 12, 19, 13⟩, ⟨0, 12, 23, 15⟩] rfl (fun z hz => nomatch hz) (by decide) (by decide) m_337 (by decide +kernel) g1 g2 g3 ?_
      refine W.eq (g2 := F0 m 15 ls [va_rf (some q13)]) rfl ?_
      refine bw_astore (lv' := [(5, va_rf (some q13)), (0, va_rf x0), (1, .int x1), (2, .int x2), (3, .int x3), (4, va_rf x4)]) hx hb d_La_scanner_15 hl (by decide) (by simp [bw_cat, cat_i, cat_j]) (fun ls hl => ?_)
      refine lv_iconst (v := 1) hx hb d_La_scanner_17 (by decide) ?_
      exact bw_iret C hW ⟨_, rfl, hq⟩ d_La_scanner_18 (Nat.le_trans (Nat.le_add_right _ _) hc) (Nat.le_trans (Nat.le_add_right _ _) hs)
    · refine bw_catch C (name := "java/lang/IllegalArgumentException") [⟨0, 12, 15, 21⟩] ⟨0, 12, 19, 13⟩ [⟨0, 12, 23, 15⟩] rfl (by intro z hz; simp only [List.mem_cons, List.not_mem_nil, or_false] at hz; subst hz; · exact Or.inr ⟨by decide, "java/util/NoSuchElementException", m_337, by decide +kernel⟩) (by decide) (by decide) m_117 (by decide +kernel) g1 g2 g3 ?_
      refine W.eq (g2 := F0 m 19 ls [va_rf (some q13)]) rfl ?_
      refine bw_astore (lv' := [(5, va_rf (some q13)), (0, va_rf x0), (1, .int x1), (2, .int x2), (3, .int x3), (4, va_rf x4)]) hx hb d_La_scanner_19 hl (by decide) (by simp [bw_cat, cat_i, cat_j]) (fun ls hl => ?_)
      refine lv_iconst (v := 2) hx hb d_La_scanner_21 (by decide) ?_
      exact bw_iret C hW ⟨_, rfl, hq⟩ d_La_scanner_22 (Nat.le_trans (Nat.le_add_right _ _) hc) (Nat.le_trans (Nat.le_add_right _ _) hs)
    · refine bw_catch C (name := "java/lang/UnsupportedOperationException") [⟨0, 12, 15, 21⟩, ⟨0, 12, 19, 13⟩] ⟨0, 12, 23, 15⟩ [] rfl (by
      intro z hz
      simp only [List.mem_cons, List.not_mem_nil, or_false] at hz
      rcases hz with rfl | rfl
      · exact Or.inr ⟨by decide, "java/util/NoSuchElementException", m_337, by decide +kernel⟩
      · exact Or.inr ⟨by decide, "java/lang/IllegalArgumentException", m_117, by decide +kernel⟩) (by decide) (by decide) m_118 (by decide +kernel) g1 g2 g3 ?_
      refine W.eq (g2 := F0 m 23 ls [va_rf (some q13)]) rfl ?_
      refine bw_astore (lv' := [(5, va_rf (some q13)), (0, va_rf x0), (1, .int x1), (2, .int x2), (3, .int x3), (4, va_rf x4)]) hx hb d_La_scanner_23 hl (by decide) (by simp [bw_cat, cat_i, cat_j]) (fun ls hl => ?_)
      refine lv_iconst (v := 3) hx hb d_La_scanner_25 (by decide) ?_
      exact bw_iret C hW ⟨_, rfl, hq⟩ d_La_scanner_26 (Nat.le_trans (Nat.le_add_right _ _) hc) (Nat.le_trans (Nat.le_add_right _ _) hs)
  · obtain ⟨i9, rfl, hq⟩ := hv
    have hc := bw_bud hc h7
    have hs := bw_bud hs h8
    refine W.eq (g2 := F0 m 10 ls [.int i9, .int (0 : Int32), va_rf x4]) rfl ?_
    refine lv_i2l hx hb d_La_scanner_10 rfl ?_
    obtain ⟨a10, ea10, hq⟩ := hq
    obtain ⟨t11, hq⟩ := hq
    obtain ⟨h12, hq⟩ := hq
    refine bw_last C hW ea10 t11 h12 d_La_scanner_11 (fun H locs hW => ?_)
    refine lv_goto (tgt := 27) hx hb d_La_scanner_12 (by decide) ?_
    refine lv_iconst (v := 0) hx hb d_La_scanner_27 (by decide) ?_
    exact bw_iret C hW ⟨_, rfl, hq⟩ d_La_scanner_28 (Nat.le_trans (Nat.le_add_right _ _) hc) (Nat.le_trans (Nat.le_add_right _ _) hs)
theorem c_La_scanner {l : Launch} {D : va_G} {AC : Nat → ClassId} {e0 mi : Nat} {Q : Int32 → Wd → Prop} (hl0 : l.stackTraces = false) (x0 : Option Nat) (x1 : Int32) (x2 : Int32) (x3 : Int32) (x4 : Option Nat) (w : Wd) (nc ns : Nat) (hq : wp_La_scanner e0 mi x0 x1 x2 x3 x4 w nc ns Q) : Ct l D AC e0 mi n_La_scanner (wyW n_La_scanner b_La_scanner 6 (some .int) [(0, 12, 15, 21), (0, 12, 19, 13), (0, 12, 23, 15)]) 9 196 [va_rf x0, .int x1, .int x2, .int x3, va_rf x4] w nc ns (fun v w9 => ∃ r9 : Int32, v = some (.int r9) ∧ Q r9 w9) (fun _ _ => False) :=
  Ct.ofH hl0 (by decide) (by simp [lg_sl, bw_cat, cat_i, cat_j]) rfl (fun p e s m args below meth c A ls C hW hl => k_La_scanner_0 C x0 x1 x2 x3 x4 w nc ns hq s.heap [] 0 0 ls hW (by simpa [lv_args, bw_cat, cat_i, cat_j] using hl) (Nat.le_of_eq (Nat.zero_add _)) (Nat.le_of_eq (Nat.zero_add _)))
def wp_La_item (e0 mi : Nat) (x0 : Option Nat) (x1 : Int32) (x2 : Int32) (x3 : Option Nat) (w : Wd) (nc ns : Nat) (Q : Int32 → Wd → Prop) : Prop :=
  ∃ a1 : Nat, x0 = some a1 ∧ (bw_is w a1 5 ∧ (∃ k5 k6 : Nat, k5 ≤ nc ∧ k6 ≤ ns ∧ wp_Br_item e0 mi a1 x1 x2 w k5 k6 (fun i9 w4 => ∃ a10 : Nat, x3 = some a10 ∧ (bw_is w4 a10 102 ∧ (vp_in (0 : Int32) (wN w4 a10) ∧ (Q (0 : Int32) (sJ w4 a10 (0 : Int32).toNatClampNeg i9.toInt64))))) (fun E9 w14 => (E9 = "java/util/NoSuchElementException" ∧ (Q (1 : Int32) w14)) ∨ (E9 = "java/lang/IllegalArgumentException" ∧ (Q (2 : Int32) w14)) ∨ (E9 = "java/lang/UnsupportedOperationException" ∧ (Q (3 : Int32) w14)))))
set_option maxHeartbeats 4000000 in
set_option maxRecDepth 100000 in
theorem k_La_item_0 {p : Program} {l : Launch} {e : Env} {s : State} {m : MethodId} {args : Array Value} {below : List Frame} {meth : Method} {c : Code} {D : va_G} {AC : Nat → ClassId} {e0 mi : Nat} {A : Nat → Prop} {mc ms : Nat} {Q : Int32 → Wd → Prop} (C : CxT [⟨0, 10, 13, 21⟩, ⟨0, 10, 17, 13⟩, ⟨0, 10, 21, 15⟩] p l s m args meth c D AC e0 mi A n_La_item b_La_item 5 (some .int)) (x0 : Option Nat) (x1 : Int32) (x2 : Int32) (x3 : Option Nat) (w : Wd) (nc ns : Nat) (hq : wp_La_item e0 mi x0 x1 x2 x3 w nc ns Q) : ∀ (H : Heap) (locs : List Loc) (cells slots : Nat) (ls : Array Slot), HW D cls8 FTc AC A s.heap H locs w → lv_has ls 5 [(0, va_rf x0), (1, .int x1), (2, .int x2), (3, va_rf x3)] → cells + nc ≤ mc → slots + ns ≤ ms → W p l e { frames := 9, cells := mc, slots := ms, locals := 196 } s m args below meth c H locs cells slots (vx_MQ below (QQ D AC A (fun v w9 => ∃ r9 : Int32, v = some (.int r9) ∧ Q r9 w9)) (XX D AC A (fun _ _ => False)) args s mc ms A) (F0 m 0 ls []) := by
  obtain ⟨hl0, hx, hb, hr, ht, hown, hlocks, hnm, hml, hex, hK, hA, hZ, hV⟩ := id C
  intro H locs cells slots ls hW hl hc hs
  unfold wp_La_item at hq
  refine bw_aload_n hx hb d_La_item_0 rfl (lv_at hl 3 rfl) ?_
  refine lv_iconst (v := 0) hx hb d_La_item_1 (by decide) ?_
  refine bw_aload_n hx hb d_La_item_2 rfl (lv_at hl 0 rfl) ?_
  refine lv_iload_n hx hb d_La_item_3 rfl (lv_at hl 1 rfl) ?_
  refine lv_iload_n hx hb d_La_item_4 rfl (lv_at hl 2 rfl) ?_
  obtain ⟨a1, ea1, hq⟩ := hq
  obtain ⟨t2, hq⟩ := hq
  obtain ⟨k5, k6, h7, h8, hq⟩ := hq
  refine bw_callV (As := [.int x1, .int x2]) (rest := [.int (0 : Int32), va_rf x3]) C hW ci_Br_item m_423 m_424 m_425 d_La_item_5 ea1 t2 (by decide) rfl rfl rfl hl.1 (by simp [bw_cat, cat_i, cat_j]) ⟨Nat.le_of_ble_eq_true rfl, Nat.le_of_ble_eq_true rfl⟩ ⟨Nat.le_trans (Nat.add_le_add_left h7 _) hc, Nat.le_trans (Nat.add_le_add_left h8 _) hs⟩ (c_Br_item hl0 _ _ _ _ _ _ hq) ?_ (fun v3 w4 H locs hv hW => ?_)
  · intro E9 ce9 q13 w14 H locs hx9 hW g1 g2 g3
    have hc := bw_bud hc h7
    have hs := bw_bud hs h8
    rcases hx9 with ⟨rfl, hq⟩ | ⟨rfl, hq⟩ | ⟨rfl, hq⟩
    · refine bw_catch C (name := "java/util/NoSuchElementException") [] ⟨0, 10, 13, 21⟩ [⟨0, 10, 17, 13⟩, ⟨0, 10, 21, 15⟩] rfl (fun z hz => nomatch hz) (by decide) (by decide) m_337 (by decide +kernel) g1 g2 g3 ?_
      refine W.eq (g2 := F0 m 13 ls [va_rf (some q13)]) rfl ?_
      refine bw_astore (lv' := [(4, va_rf (some q13)), (0, va_rf x0), (1, .int x1), (2, .int x2), (3, va_rf x3)]) hx hb d_La_item_13 hl (by decide) (by simp [bw_cat, cat_i, cat_j]) (fun ls hl => ?_)
      refine lv_iconst (v := 1) hx hb d_La_item_15 (by decide) ?_
      exact bw_iret C hW ⟨_, rfl, hq⟩ d_La_item_16 (Nat.le_trans (Nat.le_add_right _ _) hc) (Nat.le_trans (Nat.le_add_right _ _) hs)
    · refine bw_catch C (name := "java/lang/IllegalArgumentException") [⟨0, 10, 13, 21⟩] ⟨0, 10, 17, 13⟩ [⟨0, 10, 21, 15⟩] rfl (by intro z hz; simp only [List.mem_cons, List.not_mem_nil, or_false] at hz; subst hz; · exact Or.inr ⟨by decide, "java/util/NoSuchElementException", m_337, by decide +kernel⟩) (by decide) (by decide) m_117 (by decide +kernel) g1 g2 g3 ?_
      refine W.eq (g2 := F0 m 17 ls [va_rf (some q13)]) rfl ?_
      refine bw_astore (lv' := [(4, va_rf (some q13)), (0, va_rf x0), (1, .int x1), (2, .int x2), (3, va_rf x3)]) hx hb d_La_item_17 hl (by decide) (by simp [bw_cat, cat_i, cat_j]) (fun ls hl => ?_)
      refine lv_iconst (v := 2) hx hb d_La_item_19 (by decide) ?_
      exact bw_iret C hW ⟨_, rfl, hq⟩ d_La_item_20 (Nat.le_trans (Nat.le_add_right _ _) hc) (Nat.le_trans (Nat.le_add_right _ _) hs)
    · refine bw_catch C (name := "java/lang/UnsupportedOperationException") [⟨0, 10, 13, 21⟩, ⟨0, 10, 17, 13⟩] ⟨0, 10, 21, 15⟩ [] rfl (by
      intro z hz
      simp only [List.mem_cons, List.not_mem_nil, or_false] at hz
      rcases hz with rfl | rfl
      · exact Or.inr ⟨by decide, "java/util/NoSuchElementException", m_337, by decide +kernel⟩
      · exact Or.inr ⟨by decide, "java/lang/IllegalArgumentException", m_117, by decide +kernel⟩) (by decide) (by decide) m_118 (by decide +kernel) g1 g2 g3 ?_
      refine W.eq (g2 := F0 m 21 ls [va_rf (some q13)]) rfl ?_
      refine bw_astore (lv' := [(4, va_rf (some q13)), (0, va_rf x0), (1, .int x1), (2, .int x2), (3, va_rf x3)]) hx hb d_La_item_21 hl (by decide) (by simp [bw_cat, cat_i, cat_j]) (fun ls hl => ?_)
      refine lv_iconst (v := 3) hx hb d_La_item_23 (by decide) ?_
      exact bw_iret C hW ⟨_, rfl, hq⟩ d_La_item_24 (Nat.le_trans (Nat.le_add_right _ _) hc) (Nat.le_trans (Nat.le_add_right _ _) hs)
  · obtain ⟨i9, rfl, hq⟩ := hv
    have hc := bw_bud hc h7
    have hs := bw_bud hs h8
    refine W.eq (g2 := F0 m 8 ls [.int i9, .int (0 : Int32), va_rf x3]) rfl ?_
    refine lv_i2l hx hb d_La_item_8 rfl ?_
    obtain ⟨a10, ea10, hq⟩ := hq
    obtain ⟨t11, hq⟩ := hq
    obtain ⟨h12, hq⟩ := hq
    refine bw_last C hW ea10 t11 h12 d_La_item_9 (fun H locs hW => ?_)
    refine lv_goto (tgt := 25) hx hb d_La_item_10 (by decide) ?_
    refine lv_iconst (v := 0) hx hb d_La_item_25 (by decide) ?_
    exact bw_iret C hW ⟨_, rfl, hq⟩ d_La_item_26 (Nat.le_trans (Nat.le_add_right _ _) hc) (Nat.le_trans (Nat.le_add_right _ _) hs)
theorem c_La_item {l : Launch} {D : va_G} {AC : Nat → ClassId} {e0 mi : Nat} {Q : Int32 → Wd → Prop} (hl0 : l.stackTraces = false) (x0 : Option Nat) (x1 : Int32) (x2 : Int32) (x3 : Option Nat) (w : Wd) (nc ns : Nat) (hq : wp_La_item e0 mi x0 x1 x2 x3 w nc ns Q) : Ct l D AC e0 mi n_La_item (wyW n_La_item b_La_item 5 (some .int) [(0, 10, 13, 21), (0, 10, 17, 13), (0, 10, 21, 15)]) 9 196 [va_rf x0, .int x1, .int x2, va_rf x3] w nc ns (fun v w9 => ∃ r9 : Int32, v = some (.int r9) ∧ Q r9 w9) (fun _ _ => False) :=
  Ct.ofH hl0 (by decide) (by simp [lg_sl, bw_cat, cat_i, cat_j]) rfl (fun p e s m args below meth c A ls C hW hl => k_La_item_0 C x0 x1 x2 x3 w nc ns hq s.heap [] 0 0 ls hW (by simpa [lv_args, bw_cat, cat_i, cat_j] using hl) (Nat.le_of_eq (Nat.zero_add _)) (Nat.le_of_eq (Nat.zero_add _)))
def wp_La_divert (e0 mi : Nat) (x0 : Option Nat) (x1 : Int32) (x2 : Int32) (x3 : Option Nat) (w : Wd) (nc ns : Nat) (Q : Int32 → Wd → Prop) : Prop :=
  ∃ a1 : Nat, x0 = some a1 ∧ (bw_is w a1 5 ∧ (∃ k5 k6 : Nat, k5 ≤ nc ∧ k6 ≤ ns ∧ wp_Br_divert e0 mi a1 x1 x2 w k5 k6 (fun i9 w4 => ∃ a10 : Nat, x3 = some a10 ∧ (bw_is w4 a10 102 ∧ (vp_in (0 : Int32) (wN w4 a10) ∧ (Q (0 : Int32) (sJ w4 a10 (0 : Int32).toNatClampNeg i9.toInt64))))) (fun E9 w14 => (E9 = "java/util/NoSuchElementException" ∧ (Q (1 : Int32) w14)) ∨ (E9 = "java/lang/IllegalArgumentException" ∧ (Q (2 : Int32) w14)) ∨ (E9 = "java/lang/IllegalStateException" ∧ (Q (3 : Int32) w14)))))
set_option maxHeartbeats 4000000 in
set_option maxRecDepth 100000 in
theorem k_La_divert_0 {p : Program} {l : Launch} {e : Env} {s : State} {m : MethodId} {args : Array Value} {below : List Frame} {meth : Method} {c : Code} {D : va_G} {AC : Nat → ClassId} {e0 mi : Nat} {A : Nat → Prop} {mc ms : Nat} {Q : Int32 → Wd → Prop} (C : CxT [⟨0, 10, 13, 21⟩, ⟨0, 10, 17, 13⟩, ⟨0, 10, 21, 41⟩] p l s m args meth c D AC e0 mi A n_La_divert b_La_divert 5 (some .int)) (x0 : Option Nat) (x1 : Int32) (x2 : Int32) (x3 : Option Nat) (w : Wd) (nc ns : Nat) (hq : wp_La_divert e0 mi x0 x1 x2 x3 w nc ns Q) : ∀ (H : Heap) (locs : List Loc) (cells slots : Nat) (ls : Array Slot), HW D cls8 FTc AC A s.heap H locs w → lv_has ls 5 [(0, va_rf x0), (1, .int x1), (2, .int x2), (3, va_rf x3)] → cells + nc ≤ mc → slots + ns ≤ ms → W p l e { frames := 9, cells := mc, slots := ms, locals := 149 } s m args below meth c H locs cells slots (vx_MQ below (QQ D AC A (fun v w9 => ∃ r9 : Int32, v = some (.int r9) ∧ Q r9 w9)) (XX D AC A (fun _ _ => False)) args s mc ms A) (F0 m 0 ls []) := by
  obtain ⟨hl0, hx, hb, hr, ht, hown, hlocks, hnm, hml, hex, hK, hA, hZ, hV⟩ := id C
  intro H locs cells slots ls hW hl hc hs
  unfold wp_La_divert at hq
  refine bw_aload_n hx hb d_La_divert_0 rfl (lv_at hl 3 rfl) ?_
  refine lv_iconst (v := 0) hx hb d_La_divert_1 (by decide) ?_
  refine bw_aload_n hx hb d_La_divert_2 rfl (lv_at hl 0 rfl) ?_
  refine lv_iload_n hx hb d_La_divert_3 rfl (lv_at hl 1 rfl) ?_
  refine lv_iload_n hx hb d_La_divert_4 rfl (lv_at hl 2 rfl) ?_
  obtain ⟨a1, ea1, hq⟩ := hq
  obtain ⟨t2, hq⟩ := hq
  obtain ⟨k5, k6, h7, h8, hq⟩ := hq
  refine bw_callV (As := [.int x1, .int x2]) (rest := [.int (0 : Int32), va_rf x3]) C hW ci_Br_divert m_507 m_508 m_509 d_La_divert_5 ea1 t2 (by decide) rfl rfl rfl hl.1 (by simp [bw_cat, cat_i, cat_j]) ⟨Nat.le_of_ble_eq_true rfl, Nat.le_of_ble_eq_true rfl⟩ ⟨Nat.le_trans (Nat.add_le_add_left h7 _) hc, Nat.le_trans (Nat.add_le_add_left h8 _) hs⟩ (c_Br_divert hl0 _ _ _ _ _ _ hq) ?_ (fun v3 w4 H locs hv hW => ?_)
  · intro E9 ce9 q13 w14 H locs hx9 hW g1 g2 g3
    have hc := bw_bud hc h7
    have hs := bw_bud hs h8
    rcases hx9 with ⟨rfl, hq⟩ | ⟨rfl, hq⟩ | ⟨rfl, hq⟩
    · refine bw_catch C (name := "java/util/NoSuchElementException") [] ⟨0, 10, 13, 21⟩ [⟨0, 10, 17, 13⟩, ⟨0, 10, 21, 41⟩] rfl (fun z hz => nomatch hz) (by decide) (by decide) m_337 (by decide +kernel) g1 g2 g3 ?_
      refine W.eq (g2 := F0 m 13 ls [va_rf (some q13)]) rfl ?_
      refine bw_astore (lv' := [(4, va_rf (some q13)), (0, va_rf x0), (1, .int x1), (2, .int x2), (3, va_rf x3)]) hx hb d_La_divert_13 hl (by decide) (by simp [bw_cat, cat_i, cat_j]) (fun ls hl => ?_)
      refine lv_iconst (v := 1) hx hb d_La_divert_15 (by decide) ?_
      exact bw_iret C hW ⟨_, rfl, hq⟩ d_La_divert_16 (Nat.le_trans (Nat.le_add_right _ _) hc) (Nat.le_trans (Nat.le_add_right _ _) hs)
    · refine bw_catch C (name := "java/lang/IllegalArgumentException") [⟨0, 10, 13, 21⟩] ⟨0, 10, 17, 13⟩ [⟨0, 10, 21, 41⟩] rfl (by intro z hz; simp only [List.mem_cons, List.not_mem_nil, or_false] at hz; subst hz; · exact Or.inr ⟨by decide, "java/util/NoSuchElementException", m_337, by decide +kernel⟩) (by decide) (by decide) m_117 (by decide +kernel) g1 g2 g3 ?_
      refine W.eq (g2 := F0 m 17 ls [va_rf (some q13)]) rfl ?_
      refine bw_astore (lv' := [(4, va_rf (some q13)), (0, va_rf x0), (1, .int x1), (2, .int x2), (3, va_rf x3)]) hx hb d_La_divert_17 hl (by decide) (by simp [bw_cat, cat_i, cat_j]) (fun ls hl => ?_)
      refine lv_iconst (v := 2) hx hb d_La_divert_19 (by decide) ?_
      exact bw_iret C hW ⟨_, rfl, hq⟩ d_La_divert_20 (Nat.le_trans (Nat.le_add_right _ _) hc) (Nat.le_trans (Nat.le_add_right _ _) hs)
    · refine bw_catch C (name := "java/lang/IllegalStateException") [⟨0, 10, 13, 21⟩, ⟨0, 10, 17, 13⟩] ⟨0, 10, 21, 41⟩ [] rfl (by
      intro z hz
      simp only [List.mem_cons, List.not_mem_nil, or_false] at hz
      rcases hz with rfl | rfl
      · exact Or.inr ⟨by decide, "java/util/NoSuchElementException", m_337, by decide +kernel⟩
      · exact Or.inr ⟨by decide, "java/lang/IllegalArgumentException", m_117, by decide +kernel⟩) (by decide) (by decide) m_506 (by decide +kernel) g1 g2 g3 ?_
      refine W.eq (g2 := F0 m 21 ls [va_rf (some q13)]) rfl ?_
      refine bw_astore (lv' := [(4, va_rf (some q13)), (0, va_rf x0), (1, .int x1), (2, .int x2), (3, va_rf x3)]) hx hb d_La_divert_21 hl (by decide) (by simp [bw_cat, cat_i, cat_j]) (fun ls hl => ?_)
      refine lv_iconst (v := 3) hx hb d_La_divert_23 (by decide) ?_
      exact bw_iret C hW ⟨_, rfl, hq⟩ d_La_divert_24 (Nat.le_trans (Nat.le_add_right _ _) hc) (Nat.le_trans (Nat.le_add_right _ _) hs)
  · obtain ⟨i9, rfl, hq⟩ := hv
    have hc := bw_bud hc h7
    have hs := bw_bud hs h8
    refine W.eq (g2 := F0 m 8 ls [.int i9, .int (0 : Int32), va_rf x3]) rfl ?_
    refine lv_i2l hx hb d_La_divert_8 rfl ?_
    obtain ⟨a10, ea10, hq⟩ := hq
    obtain ⟨t11, hq⟩ := hq
    obtain ⟨h12, hq⟩ := hq
    refine bw_last C hW ea10 t11 h12 d_La_divert_9 (fun H locs hW => ?_)
    refine lv_goto (tgt := 25) hx hb d_La_divert_10 (by decide) ?_
    refine lv_iconst (v := 0) hx hb d_La_divert_25 (by decide) ?_
    exact bw_iret C hW ⟨_, rfl, hq⟩ d_La_divert_26 (Nat.le_trans (Nat.le_add_right _ _) hc) (Nat.le_trans (Nat.le_add_right _ _) hs)
theorem c_La_divert {l : Launch} {D : va_G} {AC : Nat → ClassId} {e0 mi : Nat} {Q : Int32 → Wd → Prop} (hl0 : l.stackTraces = false) (x0 : Option Nat) (x1 : Int32) (x2 : Int32) (x3 : Option Nat) (w : Wd) (nc ns : Nat) (hq : wp_La_divert e0 mi x0 x1 x2 x3 w nc ns Q) : Ct l D AC e0 mi n_La_divert (wyW n_La_divert b_La_divert 5 (some .int) [(0, 10, 13, 21), (0, 10, 17, 13), (0, 10, 21, 41)]) 9 149 [va_rf x0, .int x1, .int x2, va_rf x3] w nc ns (fun v w9 => ∃ r9 : Int32, v = some (.int r9) ∧ Q r9 w9) (fun _ _ => False) :=
  Ct.ofH hl0 (by decide) (by simp [lg_sl, bw_cat, cat_i, cat_j]) rfl (fun p e s m args below meth c A ls C hW hl => k_La_divert_0 C x0 x1 x2 x3 w nc ns hq s.heap [] 0 0 ls hW (by simpa [lv_args, bw_cat, cat_i, cat_j] using hl) (Nat.le_of_eq (Nat.zero_add _)) (Nat.le_of_eq (Nat.zero_add _)))
def wp_La_step (e0 mi : Nat) (x0 : Option Nat) (x1 : Int32) (x2 : Option Nat) (w : Wd) (nc ns : Nat) (Q : Int32 → Wd → Prop) : Prop :=
  ∃ a1 : Nat, x0 = some a1 ∧ (bw_is w a1 5 ∧ (∃ k5 k6 : Nat, k5 ≤ nc ∧ k6 ≤ ns ∧ wp_Br_step e0 mi a1 x1 w k5 k6 (fun i9 w4 => ∃ a10 : Nat, x2 = some a10 ∧ (bw_is w4 a10 102 ∧ (vp_in (0 : Int32) (wN w4 a10) ∧ (Q (0 : Int32) (sJ w4 a10 (0 : Int32).toNatClampNeg i9.toInt64))))) (fun E9 w14 => (E9 = "java/lang/IllegalArgumentException" ∧ (Q (1 : Int32) w14)))))
set_option maxHeartbeats 4000000 in
set_option maxRecDepth 100000 in
theorem k_La_step_0 {p : Program} {l : Launch} {e : Env} {s : State} {m : MethodId} {args : Array Value} {below : List Frame} {meth : Method} {c : Code} {D : va_G} {AC : Nat → ClassId} {e0 mi : Nat} {A : Nat → Prop} {mc ms : Nat} {Q : Int32 → Wd → Prop} (C : CxT [⟨0, 9, 12, 13⟩] p l s m args meth c D AC e0 mi A n_La_step b_La_step 4 (some .int)) (x0 : Option Nat) (x1 : Int32) (x2 : Option Nat) (w : Wd) (nc ns : Nat) (hq : wp_La_step e0 mi x0 x1 x2 w nc ns Q) : ∀ (H : Heap) (locs : List Loc) (cells slots : Nat) (ls : Array Slot), HW D cls8 FTc AC A s.heap H locs w → lv_has ls 4 [(0, va_rf x0), (1, .int x1), (2, va_rf x2)] → cells + nc ≤ mc → slots + ns ≤ ms → W p l e { frames := 11, cells := mc, slots := ms, locals := 265 } s m args below meth c H locs cells slots (vx_MQ below (QQ D AC A (fun v w9 => ∃ r9 : Int32, v = some (.int r9) ∧ Q r9 w9)) (XX D AC A (fun _ _ => False)) args s mc ms A) (F0 m 0 ls []) := by
  obtain ⟨hl0, hx, hb, hr, ht, hown, hlocks, hnm, hml, hex, hK, hA, hZ, hV⟩ := id C
  intro H locs cells slots ls hW hl hc hs
  unfold wp_La_step at hq
  refine bw_aload_n hx hb d_La_step_0 rfl (lv_at hl 2 rfl) ?_
  refine lv_iconst (v := 0) hx hb d_La_step_1 (by decide) ?_
  refine bw_aload_n hx hb d_La_step_2 rfl (lv_at hl 0 rfl) ?_
  refine lv_iload_n hx hb d_La_step_3 rfl (lv_at hl 1 rfl) ?_
  obtain ⟨a1, ea1, hq⟩ := hq
  obtain ⟨t2, hq⟩ := hq
  obtain ⟨k5, k6, h7, h8, hq⟩ := hq
  refine bw_callV (As := [.int x1]) (rest := [.int (0 : Int32), va_rf x2]) C hW ci_Br_step m_538 m_539 m_540 d_La_step_4 ea1 t2 (by decide) rfl rfl rfl hl.1 (by simp [bw_cat, cat_i, cat_j]) ⟨Nat.le_of_ble_eq_true rfl, Nat.le_of_ble_eq_true rfl⟩ ⟨Nat.le_trans (Nat.add_le_add_left h7 _) hc, Nat.le_trans (Nat.add_le_add_left h8 _) hs⟩ (c_Br_step hl0 _ _ _ _ _ hq) ?_ (fun v3 w4 H locs hv hW => ?_)
  · intro E9 ce9 q13 w14 H locs hx9 hW g1 g2 g3
    have hc := bw_bud hc h7
    have hs := bw_bud hs h8
    rcases hx9 with ⟨rfl, hq⟩
    · refine bw_catch C (name := "java/lang/IllegalArgumentException") [] ⟨0, 9, 12, 13⟩ [] rfl (fun z hz => nomatch hz) (by decide) (by decide) m_117 (by decide +kernel) g1 g2 g3 ?_
      refine W.eq (g2 := F0 m 12 ls [va_rf (some q13)]) rfl ?_
      refine bw_astore_n (i := 3) (lv' := [(3, va_rf (some q13)), (0, va_rf x0), (1, .int x1), (2, va_rf x2)]) hx hb d_La_step_12 rfl hl (by decide) (by simp [bw_cat, cat_i, cat_j]) (fun ls hl => ?_)
      refine lv_iconst (v := 1) hx hb d_La_step_13 (by decide) ?_
      exact bw_iret C hW ⟨_, rfl, hq⟩ d_La_step_14 (Nat.le_trans (Nat.le_add_right _ _) hc) (Nat.le_trans (Nat.le_add_right _ _) hs)
  · obtain ⟨i9, rfl, hq⟩ := hv
    have hc := bw_bud hc h7
    have hs := bw_bud hs h8
    refine W.eq (g2 := F0 m 7 ls [.int i9, .int (0 : Int32), va_rf x2]) rfl ?_
    refine lv_i2l hx hb d_La_step_7 rfl ?_
    obtain ⟨a10, ea10, hq⟩ := hq
    obtain ⟨t11, hq⟩ := hq
    obtain ⟨h12, hq⟩ := hq
    refine bw_last C hW ea10 t11 h12 d_La_step_8 (fun H locs hW => ?_)
    refine lv_goto (tgt := 15) hx hb d_La_step_9 (by decide) ?_
    refine lv_iconst (v := 0) hx hb d_La_step_15 (by decide) ?_
    exact bw_iret C hW ⟨_, rfl, hq⟩ d_La_step_16 (Nat.le_trans (Nat.le_add_right _ _) hc) (Nat.le_trans (Nat.le_add_right _ _) hs)
theorem c_La_step {l : Launch} {D : va_G} {AC : Nat → ClassId} {e0 mi : Nat} {Q : Int32 → Wd → Prop} (hl0 : l.stackTraces = false) (x0 : Option Nat) (x1 : Int32) (x2 : Option Nat) (w : Wd) (nc ns : Nat) (hq : wp_La_step e0 mi x0 x1 x2 w nc ns Q) : Ct l D AC e0 mi n_La_step (wyW n_La_step b_La_step 4 (some .int) [(0, 9, 12, 13)]) 11 265 [va_rf x0, .int x1, va_rf x2] w nc ns (fun v w9 => ∃ r9 : Int32, v = some (.int r9) ∧ Q r9 w9) (fun _ _ => False) :=
  Ct.ofH hl0 (by decide) (by simp [lg_sl, bw_cat, cat_i, cat_j]) rfl (fun p e s m args below meth c A ls C hW hl => k_La_step_0 C x0 x1 x2 w nc ns hq s.heap [] 0 0 ls hW (by simpa [lv_args, bw_cat, cat_i, cat_j] using hl) (Nat.le_of_eq (Nat.zero_add _)) (Nat.le_of_eq (Nat.zero_add _)))
def wp_La_edge (e0 mi : Nat) (x0 : Option Nat) (x1 : Int32) (x2 : Int32) (x3 : Option Nat) (w : Wd) (nc ns : Nat) (Q : Int32 → Wd → Prop) : Prop :=
  ∃ a1 : Nat, x0 = some a1 ∧ (bw_is w a1 5 ∧ (∃ k5 k6 : Nat, k5 ≤ nc ∧ k6 ≤ ns ∧ wp_Br_edge e0 mi a1 x1 x2 w k5 k6 (fun i9 w4 => ∃ a10 : Nat, x3 = some a10 ∧ (bw_is w4 a10 102 ∧ (vp_in (0 : Int32) (wN w4 a10) ∧ (Q (0 : Int32) (sJ w4 a10 (0 : Int32).toNatClampNeg i9.toInt64))))) (fun E9 w14 => (E9 = "java/util/NoSuchElementException" ∧ (Q (1 : Int32) w14)) ∨ (E9 = "java/lang/IllegalArgumentException" ∧ (Q (2 : Int32) w14)))))
set_option maxHeartbeats 4000000 in
set_option maxRecDepth 100000 in
theorem k_La_edge_0 {p : Program} {l : Launch} {e : Env} {s : State} {m : MethodId} {args : Array Value} {below : List Frame} {meth : Method} {c : Code} {D : va_G} {AC : Nat → ClassId} {e0 mi : Nat} {A : Nat → Prop} {mc ms : Nat} {Q : Int32 → Wd → Prop} (C : CxT [⟨0, 10, 13, 21⟩, ⟨0, 10, 17, 13⟩] p l s m args meth c D AC e0 mi A n_La_edge b_La_edge 5 (some .int)) (x0 : Option Nat) (x1 : Int32) (x2 : Int32) (x3 : Option Nat) (w : Wd) (nc ns : Nat) (hq : wp_La_edge e0 mi x0 x1 x2 x3 w nc ns Q) : ∀ (H : Heap) (locs : List Loc) (cells slots : Nat) (ls : Array Slot), HW D cls8 FTc AC A s.heap H locs w → lv_has ls 5 [(0, va_rf x0), (1, .int x1), (2, .int x2), (3, va_rf x3)] → cells + nc ≤ mc → slots + ns ≤ ms → W p l e { frames := 8, cells := mc, slots := ms, locals := 126 } s m args below meth c H locs cells slots (vx_MQ below (QQ D AC A (fun v w9 => ∃ r9 : Int32, v = some (.int r9) ∧ Q r9 w9)) (XX D AC A (fun _ _ => False)) args s mc ms A) (F0 m 0 ls []) := by
  obtain ⟨hl0, hx, hb, hr, ht, hown, hlocks, hnm, hml, hex, hK, hA, hZ, hV⟩ := id C
  intro H locs cells slots ls hW hl hc hs
  unfold wp_La_edge at hq
  refine bw_aload_n hx hb d_La_edge_0 rfl (lv_at hl 3 rfl) ?_
  refine lv_iconst (v := 0) hx hb d_La_edge_1 (by decide) ?_
  refine bw_aload_n hx hb d_La_edge_2 rfl (lv_at hl 0 rfl) ?_
  refine lv_iload_n hx hb d_La_edge_3 rfl (lv_at hl 1 rfl) ?_
  refine lv_iload_n hx hb d_La_edge_4 rfl (lv_at hl 2 rfl) ?_
  obtain ⟨a1, ea1, hq⟩ := hq
  obtain ⟨t2, hq⟩ := hq
  obtain ⟨k5, k6, h7, h8, hq⟩ := hq
  refine bw_callV (As := [.int x1, .int x2]) (rest := [.int (0 : Int32), va_rf x3]) C hW ci_Br_edge m_648 m_649 m_650 d_La_edge_5 ea1 t2 (by decide) rfl rfl rfl hl.1 (by simp [bw_cat, cat_i, cat_j]) ⟨Nat.le_of_ble_eq_true rfl, Nat.le_of_ble_eq_true rfl⟩ ⟨Nat.le_trans (Nat.add_le_add_left h7 _) hc, Nat.le_trans (Nat.add_le_add_left h8 _) hs⟩ (c_Br_edge hl0 _ _ _ _ _ _ hq) ?_ (fun v3 w4 H locs hv hW => ?_)
  · intro E9 ce9 q13 w14 H locs hx9 hW g1 g2 g3
    have hc := bw_bud hc h7
    have hs := bw_bud hs h8
    rcases hx9 with ⟨rfl, hq⟩ | ⟨rfl, hq⟩
    · refine bw_catch C (name := "java/util/NoSuchElementException") [] ⟨0, 10, 13, 21⟩ [⟨0, 10, 17, 13⟩] rfl (fun z hz => nomatch hz) (by decide) (by decide) m_337 (by decide +kernel) g1 g2 g3 ?_
      refine W.eq (g2 := F0 m 13 ls [va_rf (some q13)]) rfl ?_
      refine bw_astore (lv' := [(4, va_rf (some q13)), (0, va_rf x0), (1, .int x1), (2, .int x2), (3, va_rf x3)]) hx hb d_La_edge_13 hl (by decide) (by simp [bw_cat, cat_i, cat_j]) (fun ls hl => ?_)
      refine lv_iconst (v := 1) hx hb d_La_edge_15 (by decide) ?_
      exact bw_iret C hW ⟨_, rfl, hq⟩ d_La_edge_16 (Nat.le_trans (Nat.le_add_right _ _) hc) (Nat.le_trans (Nat.le_add_right _ _) hs)
    · refine bw_catch C (name := "java/lang/IllegalArgumentException") [⟨0, 10, 13, 21⟩] ⟨0, 10, 17, 13⟩ [] rfl (by intro z hz; simp only [List.mem_cons, List.not_mem_nil, or_false] at hz; subst hz; · exact Or.inr ⟨by decide, "java/util/NoSuchElementException", m_337, by decide +kernel⟩) (by decide) (by decide) m_117 (by decide +kernel) g1 g2 g3 ?_
      refine W.eq (g2 := F0 m 17 ls [va_rf (some q13)]) rfl ?_
      refine bw_astore (lv' := [(4, va_rf (some q13)), (0, va_rf x0), (1, .int x1), (2, .int x2), (3, va_rf x3)]) hx hb d_La_edge_17 hl (by decide) (by simp [bw_cat, cat_i, cat_j]) (fun ls hl => ?_)
      refine lv_iconst (v := 2) hx hb d_La_edge_19 (by decide) ?_
      exact bw_iret C hW ⟨_, rfl, hq⟩ d_La_edge_20 (Nat.le_trans (Nat.le_add_right _ _) hc) (Nat.le_trans (Nat.le_add_right _ _) hs)
  · obtain ⟨i9, rfl, hq⟩ := hv
    have hc := bw_bud hc h7
    have hs := bw_bud hs h8
    refine W.eq (g2 := F0 m 8 ls [.int i9, .int (0 : Int32), va_rf x3]) rfl ?_
    refine lv_i2l hx hb d_La_edge_8 rfl ?_
    obtain ⟨a10, ea10, hq⟩ := hq
    obtain ⟨t11, hq⟩ := hq
    obtain ⟨h12, hq⟩ := hq
    refine bw_last C hW ea10 t11 h12 d_La_edge_9 (fun H locs hW => ?_)
    refine lv_goto (tgt := 21) hx hb d_La_edge_10 (by decide) ?_
    refine lv_iconst (v := 0) hx hb d_La_edge_21 (by decide) ?_
    exact bw_iret C hW ⟨_, rfl, hq⟩ d_La_edge_22 (Nat.le_trans (Nat.le_add_right _ _) hc) (Nat.le_trans (Nat.le_add_right _ _) hs)
theorem c_La_edge {l : Launch} {D : va_G} {AC : Nat → ClassId} {e0 mi : Nat} {Q : Int32 → Wd → Prop} (hl0 : l.stackTraces = false) (x0 : Option Nat) (x1 : Int32) (x2 : Int32) (x3 : Option Nat) (w : Wd) (nc ns : Nat) (hq : wp_La_edge e0 mi x0 x1 x2 x3 w nc ns Q) : Ct l D AC e0 mi n_La_edge (wyW n_La_edge b_La_edge 5 (some .int) [(0, 10, 13, 21), (0, 10, 17, 13)]) 8 126 [va_rf x0, .int x1, .int x2, va_rf x3] w nc ns (fun v w9 => ∃ r9 : Int32, v = some (.int r9) ∧ Q r9 w9) (fun _ _ => False) :=
  Ct.ofH hl0 (by decide) (by simp [lg_sl, bw_cat, cat_i, cat_j]) rfl (fun p e s m args below meth c A ls C hW hl => k_La_edge_0 C x0 x1 x2 x3 w nc ns hq s.heap [] 0 0 ls hW (by simpa [lv_args, bw_cat, cat_i, cat_j] using hl) (Nat.le_of_eq (Nat.zero_add _)) (Nat.le_of_eq (Nat.zero_add _)))
def wp_La_slip (e0 mi : Nat) (x0 : Option Nat) (x1 : Int32) (x2 : Int32) (x3 : Option Nat) (w : Wd) (nc ns : Nat) (Q : Int32 → Wd → Prop) : Prop :=
  ∃ a1 : Nat, x0 = some a1 ∧ (bw_is w a1 5 ∧ (∃ k5 k6 : Nat, k5 ≤ nc ∧ k6 ≤ ns ∧ wp_Br_slip e0 mi a1 x1 x2 w k5 k6 (fun i9 w4 => ∃ a10 : Nat, x3 = some a10 ∧ (bw_is w4 a10 102 ∧ (vp_in (0 : Int32) (wN w4 a10) ∧ (Q (0 : Int32) (sJ w4 a10 (0 : Int32).toNatClampNeg i9.toInt64))))) (fun E9 w14 => (E9 = "java/util/NoSuchElementException" ∧ (Q (1 : Int32) w14)) ∨ (E9 = "java/lang/IllegalArgumentException" ∧ (Q (2 : Int32) w14)) ∨ (E9 = "java/lang/IllegalStateException" ∧ (Q (3 : Int32) w14)))))
set_option maxHeartbeats 4000000 in
set_option maxRecDepth 100000 in
theorem k_La_slip_0 {p : Program} {l : Launch} {e : Env} {s : State} {m : MethodId} {args : Array Value} {below : List Frame} {meth : Method} {c : Code} {D : va_G} {AC : Nat → ClassId} {e0 mi : Nat} {A : Nat → Prop} {mc ms : Nat} {Q : Int32 → Wd → Prop} (C : CxT [⟨0, 10, 13, 21⟩, ⟨0, 10, 17, 13⟩, ⟨0, 10, 21, 41⟩] p l s m args meth c D AC e0 mi A n_La_slip b_La_slip 5 (some .int)) (x0 : Option Nat) (x1 : Int32) (x2 : Int32) (x3 : Option Nat) (w : Wd) (nc ns : Nat) (hq : wp_La_slip e0 mi x0 x1 x2 x3 w nc ns Q) : ∀ (H : Heap) (locs : List Loc) (cells slots : Nat) (ls : Array Slot), HW D cls8 FTc AC A s.heap H locs w → lv_has ls 5 [(0, va_rf x0), (1, .int x1), (2, .int x2), (3, va_rf x3)] → cells + nc ≤ mc → slots + ns ≤ ms → W p l e { frames := 9, cells := mc, slots := ms, locals := 149 } s m args below meth c H locs cells slots (vx_MQ below (QQ D AC A (fun v w9 => ∃ r9 : Int32, v = some (.int r9) ∧ Q r9 w9)) (XX D AC A (fun _ _ => False)) args s mc ms A) (F0 m 0 ls []) := by
  obtain ⟨hl0, hx, hb, hr, ht, hown, hlocks, hnm, hml, hex, hK, hA, hZ, hV⟩ := id C
  intro H locs cells slots ls hW hl hc hs
  unfold wp_La_slip at hq
  refine bw_aload_n hx hb d_La_slip_0 rfl (lv_at hl 3 rfl) ?_
  refine lv_iconst (v := 0) hx hb d_La_slip_1 (by decide) ?_
  refine bw_aload_n hx hb d_La_slip_2 rfl (lv_at hl 0 rfl) ?_
  refine lv_iload_n hx hb d_La_slip_3 rfl (lv_at hl 1 rfl) ?_
  refine lv_iload_n hx hb d_La_slip_4 rfl (lv_at hl 2 rfl) ?_
  obtain ⟨a1, ea1, hq⟩ := hq
  obtain ⟨t2, hq⟩ := hq
  obtain ⟨k5, k6, h7, h8, hq⟩ := hq
  refine bw_callV (As := [.int x1, .int x2]) (rest := [.int (0 : Int32), va_rf x3]) C hW ci_Br_slip m_657 m_658 m_659 d_La_slip_5 ea1 t2 (by decide) rfl rfl rfl hl.1 (by simp [bw_cat, cat_i, cat_j]) ⟨Nat.le_of_ble_eq_true rfl, Nat.le_of_ble_eq_true rfl⟩ ⟨Nat.le_trans (Nat.add_le_add_left h7 _) hc, Nat.le_trans (Nat.add_le_add_left h8 _) hs⟩ (c_Br_slip hl0 _ _ _ _ _ _ hq) ?_ (fun v3 w4 H locs hv hW => ?_)
  · intro E9 ce9 q13 w14 H locs hx9 hW g1 g2 g3
    have hc := bw_bud hc h7
    have hs := bw_bud hs h8
    rcases hx9 with ⟨rfl, hq⟩ | ⟨rfl, hq⟩ | ⟨rfl, hq⟩
    · refine bw_catch C (name := "java/util/NoSuchElementException") [] ⟨0, 10, 13, 21⟩ [⟨0, 10, 17, 13⟩, ⟨0, 10, 21, 41⟩] rfl (fun z hz => nomatch hz) (by decide) (by decide) m_337 (by decide +kernel) g1 g2 g3 ?_
      refine W.eq (g2 := F0 m 13 ls [va_rf (some q13)]) rfl ?_
      refine bw_astore (lv' := [(4, va_rf (some q13)), (0, va_rf x0), (1, .int x1), (2, .int x2), (3, va_rf x3)]) hx hb d_La_slip_13 hl (by decide) (by simp [bw_cat, cat_i, cat_j]) (fun ls hl => ?_)
      refine lv_iconst (v := 1) hx hb d_La_slip_15 (by decide) ?_
      exact bw_iret C hW ⟨_, rfl, hq⟩ d_La_slip_16 (Nat.le_trans (Nat.le_add_right _ _) hc) (Nat.le_trans (Nat.le_add_right _ _) hs)
    · refine bw_catch C (name := "java/lang/IllegalArgumentException") [⟨0, 10, 13, 21⟩] ⟨0, 10, 17, 13⟩ [⟨0, 10, 21, 41⟩] rfl (by intro z hz; simp only [List.mem_cons, List.not_mem_nil, or_false] at hz; subst hz; · exact Or.inr ⟨by decide, "java/util/NoSuchElementException", m_337, by decide +kernel⟩) (by decide) (by decide) m_117 (by decide +kernel) g1 g2 g3 ?_
      refine W.eq (g2 := F0 m 17 ls [va_rf (some q13)]) rfl ?_
      refine bw_astore (lv' := [(4, va_rf (some q13)), (0, va_rf x0), (1, .int x1), (2, .int x2), (3, va_rf x3)]) hx hb d_La_slip_17 hl (by decide) (by simp [bw_cat, cat_i, cat_j]) (fun ls hl => ?_)
      refine lv_iconst (v := 2) hx hb d_La_slip_19 (by decide) ?_
      exact bw_iret C hW ⟨_, rfl, hq⟩ d_La_slip_20 (Nat.le_trans (Nat.le_add_right _ _) hc) (Nat.le_trans (Nat.le_add_right _ _) hs)
    · refine bw_catch C (name := "java/lang/IllegalStateException") [⟨0, 10, 13, 21⟩, ⟨0, 10, 17, 13⟩] ⟨0, 10, 21, 41⟩ [] rfl (by
      intro z hz
      simp only [List.mem_cons, List.not_mem_nil, or_false] at hz
      rcases hz with rfl | rfl
      · exact Or.inr ⟨by decide, "java/util/NoSuchElementException", m_337, by decide +kernel⟩
      · exact Or.inr ⟨by decide, "java/lang/IllegalArgumentException", m_117, by decide +kernel⟩) (by decide) (by decide) m_506 (by decide +kernel) g1 g2 g3 ?_
      refine W.eq (g2 := F0 m 21 ls [va_rf (some q13)]) rfl ?_
      refine bw_astore (lv' := [(4, va_rf (some q13)), (0, va_rf x0), (1, .int x1), (2, .int x2), (3, va_rf x3)]) hx hb d_La_slip_21 hl (by decide) (by simp [bw_cat, cat_i, cat_j]) (fun ls hl => ?_)
      refine lv_iconst (v := 3) hx hb d_La_slip_23 (by decide) ?_
      exact bw_iret C hW ⟨_, rfl, hq⟩ d_La_slip_24 (Nat.le_trans (Nat.le_add_right _ _) hc) (Nat.le_trans (Nat.le_add_right _ _) hs)
  · obtain ⟨i9, rfl, hq⟩ := hv
    have hc := bw_bud hc h7
    have hs := bw_bud hs h8
    refine W.eq (g2 := F0 m 8 ls [.int i9, .int (0 : Int32), va_rf x3]) rfl ?_
    refine lv_i2l hx hb d_La_slip_8 rfl ?_
    obtain ⟨a10, ea10, hq⟩ := hq
    obtain ⟨t11, hq⟩ := hq
    obtain ⟨h12, hq⟩ := hq
    refine bw_last C hW ea10 t11 h12 d_La_slip_9 (fun H locs hW => ?_)
    refine lv_goto (tgt := 25) hx hb d_La_slip_10 (by decide) ?_
    refine lv_iconst (v := 0) hx hb d_La_slip_25 (by decide) ?_
    exact bw_iret C hW ⟨_, rfl, hq⟩ d_La_slip_26 (Nat.le_trans (Nat.le_add_right _ _) hc) (Nat.le_trans (Nat.le_add_right _ _) hs)
theorem c_La_slip {l : Launch} {D : va_G} {AC : Nat → ClassId} {e0 mi : Nat} {Q : Int32 → Wd → Prop} (hl0 : l.stackTraces = false) (x0 : Option Nat) (x1 : Int32) (x2 : Int32) (x3 : Option Nat) (w : Wd) (nc ns : Nat) (hq : wp_La_slip e0 mi x0 x1 x2 x3 w nc ns Q) : Ct l D AC e0 mi n_La_slip (wyW n_La_slip b_La_slip 5 (some .int) [(0, 10, 13, 21), (0, 10, 17, 13), (0, 10, 21, 41)]) 9 149 [va_rf x0, .int x1, .int x2, va_rf x3] w nc ns (fun v w9 => ∃ r9 : Int32, v = some (.int r9) ∧ Q r9 w9) (fun _ _ => False) :=
  Ct.ofH hl0 (by decide) (by simp [lg_sl, bw_cat, cat_i, cat_j]) rfl (fun p e s m args below meth c A ls C hW hl => k_La_slip_0 C x0 x1 x2 x3 w nc ns hq s.heap [] 0 0 ls hW (by simpa [lv_args, bw_cat, cat_i, cat_j] using hl) (Nat.le_of_eq (Nat.zero_add _)) (Nat.le_of_eq (Nat.zero_add _)))
def wp_La_take (e0 mi : Nat) (x0 : Option Nat) (x1 : Int32) (w : Wd) (nc ns : Nat) (Q : Int32 → Wd → Prop) : Prop :=
  ∃ a1 : Nat, x0 = some a1 ∧ (bw_is w a1 5 ∧ (∃ k5 k6 : Nat, k5 ≤ nc ∧ k6 ≤ ns ∧ wp_Br_take e0 mi a1 x1 w k5 k6 (fun w4 => Q (0 : Int32) w4) (fun E9 w11 => (E9 = "java/util/NoSuchElementException" ∧ (Q (1 : Int32) w11)) ∨ (E9 = "java/lang/IllegalStateException" ∧ (Q (2 : Int32) w11)))))
set_option maxHeartbeats 4000000 in
set_option maxRecDepth 100000 in
theorem k_La_take_0 {p : Program} {l : Launch} {e : Env} {s : State} {m : MethodId} {args : Array Value} {below : List Frame} {meth : Method} {c : Code} {D : va_G} {AC : Nat → ClassId} {e0 mi : Nat} {A : Nat → Prop} {mc ms : Nat} {Q : Int32 → Wd → Prop} (C : CxT [⟨0, 5, 8, 21⟩, ⟨0, 5, 11, 41⟩] p l s m args meth c D AC e0 mi A n_La_take b_La_take 3 (some .int)) (x0 : Option Nat) (x1 : Int32) (w : Wd) (nc ns : Nat) (hq : wp_La_take e0 mi x0 x1 w nc ns Q) : ∀ (H : Heap) (locs : List Loc) (cells slots : Nat) (ls : Array Slot), HW D cls8 FTc AC A s.heap H locs w → lv_has ls 3 [(0, va_rf x0), (1, .int x1)] → cells + nc ≤ mc → slots + ns ≤ ms → W p l e { frames := 9, cells := mc, slots := ms, locals := 146 } s m args below meth c H locs cells slots (vx_MQ below (QQ D AC A (fun v w9 => ∃ r9 : Int32, v = some (.int r9) ∧ Q r9 w9)) (XX D AC A (fun _ _ => False)) args s mc ms A) (F0 m 0 ls []) := by
  obtain ⟨hl0, hx, hb, hr, ht, hown, hlocks, hnm, hml, hex, hK, hA, hZ, hV⟩ := id C
  intro H locs cells slots ls hW hl hc hs
  unfold wp_La_take at hq
  refine bw_aload_n hx hb d_La_take_0 rfl (lv_at hl 0 rfl) ?_
  refine lv_iload_n hx hb d_La_take_1 rfl (lv_at hl 1 rfl) ?_
  obtain ⟨a1, ea1, hq⟩ := hq
  obtain ⟨t2, hq⟩ := hq
  obtain ⟨k5, k6, h7, h8, hq⟩ := hq
  refine bw_callV (As := [.int x1]) (rest := []) C hW ci_Br_take m_666 m_667 m_668 d_La_take_2 ea1 t2 (by decide) rfl rfl rfl hl.1 (by decide) ⟨Nat.le_of_ble_eq_true rfl, Nat.le_of_ble_eq_true rfl⟩ ⟨Nat.le_trans (Nat.add_le_add_left h7 _) hc, Nat.le_trans (Nat.add_le_add_left h8 _) hs⟩ (c_Br_take hl0 _ _ _ _ _ hq) ?_ (fun v3 w4 H locs hv hW => ?_)
  · intro E9 ce9 q10 w11 H locs hx9 hW g1 g2 g3
    have hc := bw_bud hc h7
    have hs := bw_bud hs h8
    rcases hx9 with ⟨rfl, hq⟩ | ⟨rfl, hq⟩
    · refine bw_catch C (name := "java/util/NoSuchElementException") [] ⟨0, 5, 8, 21⟩ [⟨0, 5, 11, 41⟩] rfl (fun z hz => nomatch hz) (by decide) (by decide) m_337 (by decide +kernel) g1 g2 g3 ?_
      refine W.eq (g2 := F0 m 8 ls [va_rf (some q10)]) rfl ?_
      refine bw_astore_n (i := 2) (lv' := [(2, va_rf (some q10)), (0, va_rf x0), (1, .int x1)]) hx hb d_La_take_8 rfl hl (by decide) (by simp [bw_cat, cat_i, cat_j]) (fun ls hl => ?_)
      refine lv_iconst (v := 1) hx hb d_La_take_9 (by decide) ?_
      exact bw_iret C hW ⟨_, rfl, hq⟩ d_La_take_10 (Nat.le_trans (Nat.le_add_right _ _) hc) (Nat.le_trans (Nat.le_add_right _ _) hs)
    · refine bw_catch C (name := "java/lang/IllegalStateException") [⟨0, 5, 8, 21⟩] ⟨0, 5, 11, 41⟩ [] rfl (by intro z hz; simp only [List.mem_cons, List.not_mem_nil, or_false] at hz; subst hz; · exact Or.inr ⟨by decide, "java/util/NoSuchElementException", m_337, by decide +kernel⟩) (by decide) (by decide) m_506 (by decide +kernel) g1 g2 g3 ?_
      refine W.eq (g2 := F0 m 11 ls [va_rf (some q10)]) rfl ?_
      refine bw_astore_n (i := 2) (lv' := [(2, va_rf (some q10)), (0, va_rf x0), (1, .int x1)]) hx hb d_La_take_11 rfl hl (by decide) (by simp [bw_cat, cat_i, cat_j]) (fun ls hl => ?_)
      refine lv_iconst (v := 2) hx hb d_La_take_12 (by decide) ?_
      exact bw_iret C hW ⟨_, rfl, hq⟩ d_La_take_13 (Nat.le_trans (Nat.le_add_right _ _) hc) (Nat.le_trans (Nat.le_add_right _ _) hs)
  · obtain ⟨rfl, hq⟩ := hv
    have hc := bw_bud hc h7
    have hs := bw_bud hs h8
    refine W.eq (g2 := F0 m 5 ls []) rfl ?_
    refine lv_goto (tgt := 14) hx hb d_La_take_5 (by decide) ?_
    refine lv_iconst (v := 0) hx hb d_La_take_14 (by decide) ?_
    exact bw_iret C hW ⟨_, rfl, hq⟩ d_La_take_15 (Nat.le_trans (Nat.le_add_right _ _) hc) (Nat.le_trans (Nat.le_add_right _ _) hs)
theorem c_La_take {l : Launch} {D : va_G} {AC : Nat → ClassId} {e0 mi : Nat} {Q : Int32 → Wd → Prop} (hl0 : l.stackTraces = false) (x0 : Option Nat) (x1 : Int32) (w : Wd) (nc ns : Nat) (hq : wp_La_take e0 mi x0 x1 w nc ns Q) : Ct l D AC e0 mi n_La_take (wyW n_La_take b_La_take 3 (some .int) [(0, 5, 8, 21), (0, 5, 11, 41)]) 9 146 [va_rf x0, .int x1] w nc ns (fun v w9 => ∃ r9 : Int32, v = some (.int r9) ∧ Q r9 w9) (fun _ _ => False) :=
  Ct.ofH hl0 (by decide) (by simp [lg_sl, bw_cat, cat_i, cat_j]) rfl (fun p e s m args below meth c A ls C hW hl => k_La_take_0 C x0 x1 w nc ns hq s.heap [] 0 0 ls hW (by simpa [lv_args, bw_cat, cat_i, cat_j] using hl) (Nat.le_of_eq (Nat.zero_add _)) (Nat.le_of_eq (Nat.zero_add _)))
def wp_La_clean (e0 mi : Nat) (x0 : Option Nat) (x1 : Int32) (x2 : Option Nat) (w : Wd) (nc ns : Nat) (Q : Int32 → Wd → Prop) : Prop :=
  ∃ a1 : Nat, x0 = some a1 ∧ (bw_is w a1 5 ∧ (∃ k5 k6 : Nat, k5 ≤ nc ∧ k6 ≤ ns ∧ wp_Br_clean e0 mi a1 x1 w k5 k6 (fun i9 w4 => ∃ a10 : Nat, x2 = some a10 ∧ (bw_is w4 a10 102 ∧ (vp_in (0 : Int32) (wN w4 a10) ∧ (Q (0 : Int32) (sJ w4 a10 (0 : Int32).toNatClampNeg i9.toInt64))))) (fun E9 w14 => (E9 = "java/util/NoSuchElementException" ∧ (Q (1 : Int32) w14)) ∨ (E9 = "java/lang/IllegalStateException" ∧ (Q (2 : Int32) w14)))))
set_option maxHeartbeats 4000000 in
set_option maxRecDepth 100000 in
theorem k_La_clean_0 {p : Program} {l : Launch} {e : Env} {s : State} {m : MethodId} {args : Array Value} {below : List Frame} {meth : Method} {c : Code} {D : va_G} {AC : Nat → ClassId} {e0 mi : Nat} {A : Nat → Prop} {mc ms : Nat} {Q : Int32 → Wd → Prop} (C : CxT [⟨0, 9, 12, 21⟩, ⟨0, 9, 15, 41⟩] p l s m args meth c D AC e0 mi A n_La_clean b_La_clean 4 (some .int)) (x0 : Option Nat) (x1 : Int32) (x2 : Option Nat) (w : Wd) (nc ns : Nat) (hq : wp_La_clean e0 mi x0 x1 x2 w nc ns Q) : ∀ (H : Heap) (locs : List Loc) (cells slots : Nat) (ls : Array Slot), HW D cls8 FTc AC A s.heap H locs w → lv_has ls 4 [(0, va_rf x0), (1, .int x1), (2, va_rf x2)] → cells + nc ≤ mc → slots + ns ≤ ms → W p l e { frames := 9, cells := mc, slots := ms, locals := 148 } s m args below meth c H locs cells slots (vx_MQ below (QQ D AC A (fun v w9 => ∃ r9 : Int32, v = some (.int r9) ∧ Q r9 w9)) (XX D AC A (fun _ _ => False)) args s mc ms A) (F0 m 0 ls []) := by
  obtain ⟨hl0, hx, hb, hr, ht, hown, hlocks, hnm, hml, hex, hK, hA, hZ, hV⟩ := id C
  intro H locs cells slots ls hW hl hc hs
  unfold wp_La_clean at hq
  refine bw_aload_n hx hb d_La_clean_0 rfl (lv_at hl 2 rfl) ?_
  refine lv_iconst (v := 0) hx hb d_La_clean_1 (by decide) ?_
  refine bw_aload_n hx hb d_La_clean_2 rfl (lv_at hl 0 rfl) ?_
  refine lv_iload_n hx hb d_La_clean_3 rfl (lv_at hl 1 rfl) ?_
  obtain ⟨a1, ea1, hq⟩ := hq
  obtain ⟨t2, hq⟩ := hq
  obtain ⟨k5, k6, h7, h8, hq⟩ := hq
  refine bw_callV (As := [.int x1]) (rest := [.int (0 : Int32), va_rf x2]) C hW ci_Br_clean m_673 m_674 m_675 d_La_clean_4 ea1 t2 (by decide) rfl rfl rfl hl.1 (by simp [bw_cat, cat_i, cat_j]) ⟨Nat.le_of_ble_eq_true rfl, Nat.le_of_ble_eq_true rfl⟩ ⟨Nat.le_trans (Nat.add_le_add_left h7 _) hc, Nat.le_trans (Nat.add_le_add_left h8 _) hs⟩ (c_Br_clean hl0 _ _ _ _ _ hq) ?_ (fun v3 w4 H locs hv hW => ?_)
  · intro E9 ce9 q13 w14 H locs hx9 hW g1 g2 g3
    have hc := bw_bud hc h7
    have hs := bw_bud hs h8
    rcases hx9 with ⟨rfl, hq⟩ | ⟨rfl, hq⟩
    · refine bw_catch C (name := "java/util/NoSuchElementException") [] ⟨0, 9, 12, 21⟩ [⟨0, 9, 15, 41⟩] rfl (fun z hz => nomatch hz) (by decide) (by decide) m_337 (by decide +kernel) g1 g2 g3 ?_
      refine W.eq (g2 := F0 m 12 ls [va_rf (some q13)]) rfl ?_
      refine bw_astore_n (i := 3) (lv' := [(3, va_rf (some q13)), (0, va_rf x0), (1, .int x1), (2, va_rf x2)]) hx hb d_La_clean_12 rfl hl (by decide) (by simp [bw_cat, cat_i, cat_j]) (fun ls hl => ?_)
      refine lv_iconst (v := 1) hx hb d_La_clean_13 (by decide) ?_
      exact bw_iret C hW ⟨_, rfl, hq⟩ d_La_clean_14 (Nat.le_trans (Nat.le_add_right _ _) hc) (Nat.le_trans (Nat.le_add_right _ _) hs)
    · refine bw_catch C (name := "java/lang/IllegalStateException") [⟨0, 9, 12, 21⟩] ⟨0, 9, 15, 41⟩ [] rfl (by intro z hz; simp only [List.mem_cons, List.not_mem_nil, or_false] at hz; subst hz; · exact Or.inr ⟨by decide, "java/util/NoSuchElementException", m_337, by decide +kernel⟩) (by decide) (by decide) m_506 (by decide +kernel) g1 g2 g3 ?_
      refine W.eq (g2 := F0 m 15 ls [va_rf (some q13)]) rfl ?_
      refine bw_astore_n (i := 3) (lv' := [(3, va_rf (some q13)), (0, va_rf x0), (1, .int x1), (2, va_rf x2)]) hx hb d_La_clean_15 rfl hl (by decide) (by simp [bw_cat, cat_i, cat_j]) (fun ls hl => ?_)
      refine lv_iconst (v := 2) hx hb d_La_clean_16 (by decide) ?_
      exact bw_iret C hW ⟨_, rfl, hq⟩ d_La_clean_17 (Nat.le_trans (Nat.le_add_right _ _) hc) (Nat.le_trans (Nat.le_add_right _ _) hs)
  · obtain ⟨i9, rfl, hq⟩ := hv
    have hc := bw_bud hc h7
    have hs := bw_bud hs h8
    refine W.eq (g2 := F0 m 7 ls [.int i9, .int (0 : Int32), va_rf x2]) rfl ?_
    refine lv_i2l hx hb d_La_clean_7 rfl ?_
    obtain ⟨a10, ea10, hq⟩ := hq
    obtain ⟨t11, hq⟩ := hq
    obtain ⟨h12, hq⟩ := hq
    refine bw_last C hW ea10 t11 h12 d_La_clean_8 (fun H locs hW => ?_)
    refine lv_goto (tgt := 18) hx hb d_La_clean_9 (by decide) ?_
    refine lv_iconst (v := 0) hx hb d_La_clean_18 (by decide) ?_
    exact bw_iret C hW ⟨_, rfl, hq⟩ d_La_clean_19 (Nat.le_trans (Nat.le_add_right _ _) hc) (Nat.le_trans (Nat.le_add_right _ _) hs)
theorem c_La_clean {l : Launch} {D : va_G} {AC : Nat → ClassId} {e0 mi : Nat} {Q : Int32 → Wd → Prop} (hl0 : l.stackTraces = false) (x0 : Option Nat) (x1 : Int32) (x2 : Option Nat) (w : Wd) (nc ns : Nat) (hq : wp_La_clean e0 mi x0 x1 x2 w nc ns Q) : Ct l D AC e0 mi n_La_clean (wyW n_La_clean b_La_clean 4 (some .int) [(0, 9, 12, 21), (0, 9, 15, 41)]) 9 148 [va_rf x0, .int x1, va_rf x2] w nc ns (fun v w9 => ∃ r9 : Int32, v = some (.int r9) ∧ Q r9 w9) (fun _ _ => False) :=
  Ct.ofH hl0 (by decide) (by simp [lg_sl, bw_cat, cat_i, cat_j]) rfl (fun p e s m args below meth c A ls C hW hl => k_La_clean_0 C x0 x1 x2 w nc ns hq s.heap [] 0 0 ls hW (by simpa [lv_args, bw_cat, cat_i, cat_j] using hl) (Nat.le_of_eq (Nat.zero_add _)) (Nat.le_of_eq (Nat.zero_add _)))
def wp_La_gap (e0 mi : Nat) (x0 : Option Nat) (x1 : Int32) (x2 : Int32) (x3 : Option Nat) (w : Wd) (nc ns : Nat) (Q : Int32 → Wd → Prop) : Prop :=
  ∃ a1 : Nat, x0 = some a1 ∧ (bw_is w a1 5 ∧ (∃ k5 k6 : Nat, k5 ≤ nc ∧ k6 ≤ ns ∧ wp_Br_gap e0 mi a1 x1 x2 w k5 k6 (fun i9 w4 => ∃ a10 : Nat, x3 = some a10 ∧ (bw_is w4 a10 102 ∧ (vp_in (0 : Int32) (wN w4 a10) ∧ (Q (0 : Int32) (sJ w4 a10 (0 : Int32).toNatClampNeg i9.toInt64))))) (fun E9 w14 => (E9 = "java/util/NoSuchElementException" ∧ (Q (1 : Int32) w14)) ∨ (E9 = "java/lang/IllegalStateException" ∧ (Q (2 : Int32) w14)))))
set_option maxHeartbeats 4000000 in
set_option maxRecDepth 100000 in
theorem k_La_gap_0 {p : Program} {l : Launch} {e : Env} {s : State} {m : MethodId} {args : Array Value} {below : List Frame} {meth : Method} {c : Code} {D : va_G} {AC : Nat → ClassId} {e0 mi : Nat} {A : Nat → Prop} {mc ms : Nat} {Q : Int32 → Wd → Prop} (C : CxT [⟨0, 10, 13, 21⟩, ⟨0, 10, 17, 41⟩] p l s m args meth c D AC e0 mi A n_La_gap b_La_gap 5 (some .int)) (x0 : Option Nat) (x1 : Int32) (x2 : Int32) (x3 : Option Nat) (w : Wd) (nc ns : Nat) (hq : wp_La_gap e0 mi x0 x1 x2 x3 w nc ns Q) : ∀ (H : Heap) (locs : List Loc) (cells slots : Nat) (ls : Array Slot), HW D cls8 FTc AC A s.heap H locs w → lv_has ls 5 [(0, va_rf x0), (1, .int x1), (2, .int x2), (3, va_rf x3)] → cells + nc ≤ mc → slots + ns ≤ ms → W p l e { frames := 9, cells := mc, slots := ms, locals := 148 } s m args below meth c H locs cells slots (vx_MQ below (QQ D AC A (fun v w9 => ∃ r9 : Int32, v = some (.int r9) ∧ Q r9 w9)) (XX D AC A (fun _ _ => False)) args s mc ms A) (F0 m 0 ls []) := by
  obtain ⟨hl0, hx, hb, hr, ht, hown, hlocks, hnm, hml, hex, hK, hA, hZ, hV⟩ := id C
  intro H locs cells slots ls hW hl hc hs
  unfold wp_La_gap at hq
  refine bw_aload_n hx hb d_La_gap_0 rfl (lv_at hl 3 rfl) ?_
  refine lv_iconst (v := 0) hx hb d_La_gap_1 (by decide) ?_
  refine bw_aload_n hx hb d_La_gap_2 rfl (lv_at hl 0 rfl) ?_
  refine lv_iload_n hx hb d_La_gap_3 rfl (lv_at hl 1 rfl) ?_
  refine lv_iload_n hx hb d_La_gap_4 rfl (lv_at hl 2 rfl) ?_
  obtain ⟨a1, ea1, hq⟩ := hq
  obtain ⟨t2, hq⟩ := hq
  obtain ⟨k5, k6, h7, h8, hq⟩ := hq
  refine bw_callV (As := [.int x1, .int x2]) (rest := [.int (0 : Int32), va_rf x3]) C hW ci_Br_gap m_681 m_682 m_683 d_La_gap_5 ea1 t2 (by decide) rfl rfl rfl hl.1 (by simp [bw_cat, cat_i, cat_j]) ⟨Nat.le_of_ble_eq_true rfl, Nat.le_of_ble_eq_true rfl⟩ ⟨Nat.le_trans (Nat.add_le_add_left h7 _) hc, Nat.le_trans (Nat.add_le_add_left h8 _) hs⟩ (c_Br_gap hl0 _ _ _ _ _ _ hq) ?_ (fun v3 w4 H locs hv hW => ?_)
  · intro E9 ce9 q13 w14 H locs hx9 hW g1 g2 g3
    have hc := bw_bud hc h7
    have hs := bw_bud hs h8
    rcases hx9 with ⟨rfl, hq⟩ | ⟨rfl, hq⟩
    · refine bw_catch C (name := "java/util/NoSuchElementException") [] ⟨0, 10, 13, 21⟩ [⟨0, 10, 17, 41⟩] rfl (fun z hz => nomatch hz) (by decide) (by decide) m_337 (by decide +kernel) g1 g2 g3 ?_
      refine W.eq (g2 := F0 m 13 ls [va_rf (some q13)]) rfl ?_
      refine bw_astore (lv' := [(4, va_rf (some q13)), (0, va_rf x0), (1, .int x1), (2, .int x2), (3, va_rf x3)]) hx hb d_La_gap_13 hl (by decide) (by simp [bw_cat, cat_i, cat_j]) (fun ls hl => ?_)
      refine lv_iconst (v := 1) hx hb d_La_gap_15 (by decide) ?_
      exact bw_iret C hW ⟨_, rfl, hq⟩ d_La_gap_16 (Nat.le_trans (Nat.le_add_right _ _) hc) (Nat.le_trans (Nat.le_add_right _ _) hs)
    · refine bw_catch C (name := "java/lang/IllegalStateException") [⟨0, 10, 13, 21⟩] ⟨0, 10, 17, 41⟩ [] rfl (by intro z hz; simp only [List.mem_cons, List.not_mem_nil, or_false] at hz; subst hz; · exact Or.inr ⟨by decide, "java/util/NoSuchElementException", m_337, by decide +kernel⟩) (by decide) (by decide) m_506 (by decide +kernel) g1 g2 g3 ?_
      refine W.eq (g2 := F0 m 17 ls [va_rf (some q13)]) rfl ?_
      refine bw_astore (lv' := [(4, va_rf (some q13)), (0, va_rf x0), (1, .int x1), (2, .int x2), (3, va_rf x3)]) hx hb d_La_gap_17 hl (by decide) (by simp [bw_cat, cat_i, cat_j]) (fun ls hl => ?_)
      refine lv_iconst (v := 2) hx hb d_La_gap_19 (by decide) ?_
      exact bw_iret C hW ⟨_, rfl, hq⟩ d_La_gap_20 (Nat.le_trans (Nat.le_add_right _ _) hc) (Nat.le_trans (Nat.le_add_right _ _) hs)
  · obtain ⟨i9, rfl, hq⟩ := hv
    have hc := bw_bud hc h7
    have hs := bw_bud hs h8
    refine W.eq (g2 := F0 m 8 ls [.int i9, .int (0 : Int32), va_rf x3]) rfl ?_
    refine lv_i2l hx hb d_La_gap_8 rfl ?_
    obtain ⟨a10, ea10, hq⟩ := hq
    obtain ⟨t11, hq⟩ := hq
    obtain ⟨h12, hq⟩ := hq
    refine bw_last C hW ea10 t11 h12 d_La_gap_9 (fun H locs hW => ?_)
    refine lv_goto (tgt := 21) hx hb d_La_gap_10 (by decide) ?_
    refine lv_iconst (v := 0) hx hb d_La_gap_21 (by decide) ?_
    exact bw_iret C hW ⟨_, rfl, hq⟩ d_La_gap_22 (Nat.le_trans (Nat.le_add_right _ _) hc) (Nat.le_trans (Nat.le_add_right _ _) hs)
theorem c_La_gap {l : Launch} {D : va_G} {AC : Nat → ClassId} {e0 mi : Nat} {Q : Int32 → Wd → Prop} (hl0 : l.stackTraces = false) (x0 : Option Nat) (x1 : Int32) (x2 : Int32) (x3 : Option Nat) (w : Wd) (nc ns : Nat) (hq : wp_La_gap e0 mi x0 x1 x2 x3 w nc ns Q) : Ct l D AC e0 mi n_La_gap (wyW n_La_gap b_La_gap 5 (some .int) [(0, 10, 13, 21), (0, 10, 17, 41)]) 9 148 [va_rf x0, .int x1, .int x2, va_rf x3] w nc ns (fun v w9 => ∃ r9 : Int32, v = some (.int r9) ∧ Q r9 w9) (fun _ _ => False) :=
  Ct.ofH hl0 (by decide) (by simp [lg_sl, bw_cat, cat_i, cat_j]) rfl (fun p e s m args below meth c A ls C hW hl => k_La_gap_0 C x0 x1 x2 x3 w nc ns hq s.heap [] 0 0 ls hW (by simpa [lv_args, bw_cat, cat_i, cat_j] using hl) (Nat.le_of_eq (Nat.zero_add _)) (Nat.le_of_eq (Nat.zero_add _)))
def wp_La_told (e0 mi : Nat) (x0 : Option Nat) (x1 : Int32) (x2 : Int32) (x3 : Option Nat) (w : Wd) (nc ns : Nat) (Q : Int32 → Wd → Prop) : Prop :=
  ∃ a1 : Nat, x0 = some a1 ∧ (bw_is w a1 5 ∧ (∃ k5 k6 : Nat, k5 ≤ nc ∧ k6 ≤ ns ∧ wp_Br_told e0 mi a1 x1 x2 w k5 k6 (fun i9 w4 => ∃ a10 : Nat, x3 = some a10 ∧ (bw_is w4 a10 102 ∧ (vp_in (0 : Int32) (wN w4 a10) ∧ (Q (0 : Int32) (sJ w4 a10 (0 : Int32).toNatClampNeg i9.toInt64))))) (fun E9 w14 => (E9 = "java/util/NoSuchElementException" ∧ (Q (1 : Int32) w14)) ∨ (E9 = "java/lang/IllegalArgumentException" ∧ (Q (2 : Int32) w14)))))
set_option maxHeartbeats 4000000 in
set_option maxRecDepth 100000 in
theorem k_La_told_0 {p : Program} {l : Launch} {e : Env} {s : State} {m : MethodId} {args : Array Value} {below : List Frame} {meth : Method} {c : Code} {D : va_G} {AC : Nat → ClassId} {e0 mi : Nat} {A : Nat → Prop} {mc ms : Nat} {Q : Int32 → Wd → Prop} (C : CxT [⟨0, 10, 13, 21⟩, ⟨0, 10, 17, 13⟩] p l s m args meth c D AC e0 mi A n_La_told b_La_told 5 (some .int)) (x0 : Option Nat) (x1 : Int32) (x2 : Int32) (x3 : Option Nat) (w : Wd) (nc ns : Nat) (hq : wp_La_told e0 mi x0 x1 x2 x3 w nc ns Q) : ∀ (H : Heap) (locs : List Loc) (cells slots : Nat) (ls : Array Slot), HW D cls8 FTc AC A s.heap H locs w → lv_has ls 5 [(0, va_rf x0), (1, .int x1), (2, .int x2), (3, va_rf x3)] → cells + nc ≤ mc → slots + ns ≤ ms → W p l e { frames := 9, cells := mc, slots := ms, locals := 148 } s m args below meth c H locs cells slots (vx_MQ below (QQ D AC A (fun v w9 => ∃ r9 : Int32, v = some (.int r9) ∧ Q r9 w9)) (XX D AC A (fun _ _ => False)) args s mc ms A) (F0 m 0 ls []) := by
  obtain ⟨hl0, hx, hb, hr, ht, hown, hlocks, hnm, hml, hex, hK, hA, hZ, hV⟩ := id C
  intro H locs cells slots ls hW hl hc hs
  unfold wp_La_told at hq
  refine bw_aload_n hx hb d_La_told_0 rfl (lv_at hl 3 rfl) ?_
  refine lv_iconst (v := 0) hx hb d_La_told_1 (by decide) ?_
  refine bw_aload_n hx hb d_La_told_2 rfl (lv_at hl 0 rfl) ?_
  refine lv_iload_n hx hb d_La_told_3 rfl (lv_at hl 1 rfl) ?_
  refine lv_iload_n hx hb d_La_told_4 rfl (lv_at hl 2 rfl) ?_
  obtain ⟨a1, ea1, hq⟩ := hq
  obtain ⟨t2, hq⟩ := hq
  obtain ⟨k5, k6, h7, h8, hq⟩ := hq
  refine bw_callV (As := [.int x1, .int x2]) (rest := [.int (0 : Int32), va_rf x3]) C hW ci_Br_told m_689 m_690 m_691 d_La_told_5 ea1 t2 (by decide) rfl rfl rfl hl.1 (by simp [bw_cat, cat_i, cat_j]) ⟨Nat.le_of_ble_eq_true rfl, Nat.le_of_ble_eq_true rfl⟩ ⟨Nat.le_trans (Nat.add_le_add_left h7 _) hc, Nat.le_trans (Nat.add_le_add_left h8 _) hs⟩ (c_Br_told hl0 _ _ _ _ _ _ hq) ?_ (fun v3 w4 H locs hv hW => ?_)
  · intro E9 ce9 q13 w14 H locs hx9 hW g1 g2 g3
    have hc := bw_bud hc h7
    have hs := bw_bud hs h8
    rcases hx9 with ⟨rfl, hq⟩ | ⟨rfl, hq⟩
    · refine bw_catch C (name := "java/util/NoSuchElementException") [] ⟨0, 10, 13, 21⟩ [⟨0, 10, 17, 13⟩] rfl (fun z hz => nomatch hz) (by decide) (by decide) m_337 (by decide +kernel) g1 g2 g3 ?_
      refine W.eq (g2 := F0 m 13 ls [va_rf (some q13)]) rfl ?_
      refine bw_astore (lv' := [(4, va_rf (some q13)), (0, va_rf x0), (1, .int x1), (2, .int x2), (3, va_rf x3)]) hx hb d_La_told_13 hl (by decide) (by simp [bw_cat, cat_i, cat_j]) (fun ls hl => ?_)
      refine lv_iconst (v := 1) hx hb d_La_told_15 (by decide) ?_
      exact bw_iret C hW ⟨_, rfl, hq⟩ d_La_told_16 (Nat.le_trans (Nat.le_add_right _ _) hc) (Nat.le_trans (Nat.le_add_right _ _) hs)
    · refine bw_catch C (name := "java/lang/IllegalArgumentException") [⟨0, 10, 13, 21⟩] ⟨0, 10, 17, 13⟩ [] rfl (by intro z hz; simp only [List.mem_cons, List.not_mem_nil, or_false] at hz; subst hz; · exact Or.inr ⟨by decide, "java/util/NoSuchElementException", m_337, by decide +kernel⟩) (by decide) (by decide) m_117 (by decide +kernel) g1 g2 g3 ?_
      refine W.eq (g2 := F0 m 17 ls [va_rf (some q13)]) rfl ?_
      refine bw_astore (lv' := [(4, va_rf (some q13)), (0, va_rf x0), (1, .int x1), (2, .int x2), (3, va_rf x3)]) hx hb d_La_told_17 hl (by decide) (by simp [bw_cat, cat_i, cat_j]) (fun ls hl => ?_)
      refine lv_iconst (v := 2) hx hb d_La_told_19 (by decide) ?_
      exact bw_iret C hW ⟨_, rfl, hq⟩ d_La_told_20 (Nat.le_trans (Nat.le_add_right _ _) hc) (Nat.le_trans (Nat.le_add_right _ _) hs)
  · obtain ⟨i9, rfl, hq⟩ := hv
    have hc := bw_bud hc h7
    have hs := bw_bud hs h8
    refine W.eq (g2 := F0 m 8 ls [.int i9, .int (0 : Int32), va_rf x3]) rfl ?_
    refine lv_i2l hx hb d_La_told_8 rfl ?_
    obtain ⟨a10, ea10, hq⟩ := hq
    obtain ⟨t11, hq⟩ := hq
    obtain ⟨h12, hq⟩ := hq
    refine bw_last C hW ea10 t11 h12 d_La_told_9 (fun H locs hW => ?_)
    refine lv_goto (tgt := 21) hx hb d_La_told_10 (by decide) ?_
    refine lv_iconst (v := 0) hx hb d_La_told_21 (by decide) ?_
    exact bw_iret C hW ⟨_, rfl, hq⟩ d_La_told_22 (Nat.le_trans (Nat.le_add_right _ _) hc) (Nat.le_trans (Nat.le_add_right _ _) hs)
theorem c_La_told {l : Launch} {D : va_G} {AC : Nat → ClassId} {e0 mi : Nat} {Q : Int32 → Wd → Prop} (hl0 : l.stackTraces = false) (x0 : Option Nat) (x1 : Int32) (x2 : Int32) (x3 : Option Nat) (w : Wd) (nc ns : Nat) (hq : wp_La_told e0 mi x0 x1 x2 x3 w nc ns Q) : Ct l D AC e0 mi n_La_told (wyW n_La_told b_La_told 5 (some .int) [(0, 10, 13, 21), (0, 10, 17, 13)]) 9 148 [va_rf x0, .int x1, .int x2, va_rf x3] w nc ns (fun v w9 => ∃ r9 : Int32, v = some (.int r9) ∧ Q r9 w9) (fun _ _ => False) :=
  Ct.ofH hl0 (by decide) (by simp [lg_sl, bw_cat, cat_i, cat_j]) rfl (fun p e s m args below meth c A ls C hW hl => k_La_told_0 C x0 x1 x2 x3 w nc ns hq s.heap [] 0 0 ls hW (by simpa [lv_args, bw_cat, cat_i, cat_j] using hl) (Nat.le_of_eq (Nat.zero_add _)) (Nat.le_of_eq (Nat.zero_add _)))
def wp_La_known (e0 mi : Nat) (x0 : Option Nat) (x1 : Int32) (x2 : Int32) (x3 : Option Nat) (w : Wd) (nc ns : Nat) (Q : Int32 → Wd → Prop) : Prop :=
  ∃ a1 : Nat, x0 = some a1 ∧ (bw_is w a1 5 ∧ (∃ k5 k6 : Nat, k5 ≤ nc ∧ k6 ≤ ns ∧ wp_Br_known e0 mi a1 x1 x2 w k5 k6 (fun i9 w4 => ∃ a10 : Nat, x3 = some a10 ∧ (bw_is w4 a10 102 ∧ (vp_in (0 : Int32) (wN w4 a10) ∧ (Q (0 : Int32) (sJ w4 a10 (0 : Int32).toNatClampNeg i9.toInt64))))) (fun E9 w14 => (E9 = "java/util/NoSuchElementException" ∧ (Q (1 : Int32) w14)) ∨ (E9 = "java/lang/IllegalArgumentException" ∧ (Q (2 : Int32) w14)))))
set_option maxHeartbeats 4000000 in
set_option maxRecDepth 100000 in
theorem k_La_known_0 {p : Program} {l : Launch} {e : Env} {s : State} {m : MethodId} {args : Array Value} {below : List Frame} {meth : Method} {c : Code} {D : va_G} {AC : Nat → ClassId} {e0 mi : Nat} {A : Nat → Prop} {mc ms : Nat} {Q : Int32 → Wd → Prop} (C : CxT [⟨0, 10, 13, 21⟩, ⟨0, 10, 17, 13⟩] p l s m args meth c D AC e0 mi A n_La_known b_La_known 5 (some .int)) (x0 : Option Nat) (x1 : Int32) (x2 : Int32) (x3 : Option Nat) (w : Wd) (nc ns : Nat) (hq : wp_La_known e0 mi x0 x1 x2 x3 w nc ns Q) : ∀ (H : Heap) (locs : List Loc) (cells slots : Nat) (ls : Array Slot), HW D cls8 FTc AC A s.heap H locs w → lv_has ls 5 [(0, va_rf x0), (1, .int x1), (2, .int x2), (3, va_rf x3)] → cells + nc ≤ mc → slots + ns ≤ ms → W p l e { frames := 9, cells := mc, slots := ms, locals := 147 } s m args below meth c H locs cells slots (vx_MQ below (QQ D AC A (fun v w9 => ∃ r9 : Int32, v = some (.int r9) ∧ Q r9 w9)) (XX D AC A (fun _ _ => False)) args s mc ms A) (F0 m 0 ls []) := by
  obtain ⟨hl0, hx, hb, hr, ht, hown, hlocks, hnm, hml, hex, hK, hA, hZ, hV⟩ := id C
  intro H locs cells slots ls hW hl hc hs
  unfold wp_La_known at hq
  refine bw_aload_n hx hb d_La_known_0 rfl (lv_at hl 3 rfl) ?_
  refine lv_iconst (v := 0) hx hb d_La_known_1 (by decide) ?_
  refine bw_aload_n hx hb d_La_known_2 rfl (lv_at hl 0 rfl) ?_
  refine lv_iload_n hx hb d_La_known_3 rfl (lv_at hl 1 rfl) ?_
  refine lv_iload_n hx hb d_La_known_4 rfl (lv_at hl 2 rfl) ?_
  obtain ⟨a1, ea1, hq⟩ := hq
  obtain ⟨t2, hq⟩ := hq
  obtain ⟨k5, k6, h7, h8, hq⟩ := hq
  refine bw_callV (As := [.int x1, .int x2]) (rest := [.int (0 : Int32), va_rf x3]) C hW ci_Br_known m_697 m_698 m_699 d_La_known_5 ea1 t2 (by decide) rfl rfl rfl hl.1 (by simp [bw_cat, cat_i, cat_j]) ⟨Nat.le_of_ble_eq_true rfl, Nat.le_of_ble_eq_true rfl⟩ ⟨Nat.le_trans (Nat.add_le_add_left h7 _) hc, Nat.le_trans (Nat.add_le_add_left h8 _) hs⟩ (c_Br_known hl0 _ _ _ _ _ _ hq) ?_ (fun v3 w4 H locs hv hW => ?_)
  · intro E9 ce9 q13 w14 H locs hx9 hW g1 g2 g3
    have hc := bw_bud hc h7
    have hs := bw_bud hs h8
    rcases hx9 with ⟨rfl, hq⟩ | ⟨rfl, hq⟩
    · refine bw_catch C (name := "java/util/NoSuchElementException") [] ⟨0, 10, 13, 21⟩ [⟨0, 10, 17, 13⟩] rfl (fun z hz => nomatch hz) (by decide) (by decide) m_337 (by decide +kernel) g1 g2 g3 ?_
      refine W.eq (g2 := F0 m 13 ls [va_rf (some q13)]) rfl ?_
      refine bw_astore (lv' := [(4, va_rf (some q13)), (0, va_rf x0), (1, .int x1), (2, .int x2), (3, va_rf x3)]) hx hb d_La_known_13 hl (by decide) (by simp [bw_cat, cat_i, cat_j]) (fun ls hl => ?_)
      refine lv_iconst (v := 1) hx hb d_La_known_15 (by decide) ?_
      exact bw_iret C hW ⟨_, rfl, hq⟩ d_La_known_16 (Nat.le_trans (Nat.le_add_right _ _) hc) (Nat.le_trans (Nat.le_add_right _ _) hs)
    · refine bw_catch C (name := "java/lang/IllegalArgumentException") [⟨0, 10, 13, 21⟩] ⟨0, 10, 17, 13⟩ [] rfl (by intro z hz; simp only [List.mem_cons, List.not_mem_nil, or_false] at hz; subst hz; · exact Or.inr ⟨by decide, "java/util/NoSuchElementException", m_337, by decide +kernel⟩) (by decide) (by decide) m_117 (by decide +kernel) g1 g2 g3 ?_
      refine W.eq (g2 := F0 m 17 ls [va_rf (some q13)]) rfl ?_
      refine bw_astore (lv' := [(4, va_rf (some q13)), (0, va_rf x0), (1, .int x1), (2, .int x2), (3, va_rf x3)]) hx hb d_La_known_17 hl (by decide) (by simp [bw_cat, cat_i, cat_j]) (fun ls hl => ?_)
      refine lv_iconst (v := 2) hx hb d_La_known_19 (by decide) ?_
      exact bw_iret C hW ⟨_, rfl, hq⟩ d_La_known_20 (Nat.le_trans (Nat.le_add_right _ _) hc) (Nat.le_trans (Nat.le_add_right _ _) hs)
  · obtain ⟨i9, rfl, hq⟩ := hv
    have hc := bw_bud hc h7
    have hs := bw_bud hs h8
    refine W.eq (g2 := F0 m 8 ls [.int i9, .int (0 : Int32), va_rf x3]) rfl ?_
    refine lv_i2l hx hb d_La_known_8 rfl ?_
    obtain ⟨a10, ea10, hq⟩ := hq
    obtain ⟨t11, hq⟩ := hq
    obtain ⟨h12, hq⟩ := hq
    refine bw_last C hW ea10 t11 h12 d_La_known_9 (fun H locs hW => ?_)
    refine lv_goto (tgt := 21) hx hb d_La_known_10 (by decide) ?_
    refine lv_iconst (v := 0) hx hb d_La_known_21 (by decide) ?_
    exact bw_iret C hW ⟨_, rfl, hq⟩ d_La_known_22 (Nat.le_trans (Nat.le_add_right _ _) hc) (Nat.le_trans (Nat.le_add_right _ _) hs)
theorem c_La_known {l : Launch} {D : va_G} {AC : Nat → ClassId} {e0 mi : Nat} {Q : Int32 → Wd → Prop} (hl0 : l.stackTraces = false) (x0 : Option Nat) (x1 : Int32) (x2 : Int32) (x3 : Option Nat) (w : Wd) (nc ns : Nat) (hq : wp_La_known e0 mi x0 x1 x2 x3 w nc ns Q) : Ct l D AC e0 mi n_La_known (wyW n_La_known b_La_known 5 (some .int) [(0, 10, 13, 21), (0, 10, 17, 13)]) 9 147 [va_rf x0, .int x1, .int x2, va_rf x3] w nc ns (fun v w9 => ∃ r9 : Int32, v = some (.int r9) ∧ Q r9 w9) (fun _ _ => False) :=
  Ct.ofH hl0 (by decide) (by simp [lg_sl, bw_cat, cat_i, cat_j]) rfl (fun p e s m args below meth c A ls C hW hl => k_La_known_0 C x0 x1 x2 x3 w nc ns hq s.heap [] 0 0 ls hW (by simpa [lv_args, bw_cat, cat_i, cat_j] using hl) (Nat.le_of_eq (Nat.zero_add _)) (Nat.le_of_eq (Nat.zero_add _)))
def wp_La_order (e0 mi : Nat) (x0 : Option Nat) (x1 : Int32) (x2 : Option Nat) (w : Wd) (nc ns : Nat) (Q : Int32 → Wd → Prop) : Prop :=
  ∃ a1 : Nat, x0 = some a1 ∧ (bw_is w a1 5 ∧ (∃ k5 k6 : Nat, k5 ≤ nc ∧ k6 ≤ ns ∧ wp_Br_order e0 mi a1 x1 w k5 k6 (fun i9 w4 => ∃ a10 : Nat, x2 = some a10 ∧ (bw_is w4 a10 102 ∧ (vp_in (0 : Int32) (wN w4 a10) ∧ (Q (0 : Int32) (sJ w4 a10 (0 : Int32).toNatClampNeg i9.toInt64))))) (fun E9 w14 => (E9 = "java/util/NoSuchElementException" ∧ (Q (1 : Int32) w14)))))
set_option maxHeartbeats 4000000 in
set_option maxRecDepth 100000 in
theorem k_La_order_0 {p : Program} {l : Launch} {e : Env} {s : State} {m : MethodId} {args : Array Value} {below : List Frame} {meth : Method} {c : Code} {D : va_G} {AC : Nat → ClassId} {e0 mi : Nat} {A : Nat → Prop} {mc ms : Nat} {Q : Int32 → Wd → Prop} (C : CxT [⟨0, 9, 12, 21⟩] p l s m args meth c D AC e0 mi A n_La_order b_La_order 4 (some .int)) (x0 : Option Nat) (x1 : Int32) (x2 : Option Nat) (w : Wd) (nc ns : Nat) (hq : wp_La_order e0 mi x0 x1 x2 w nc ns Q) : ∀ (H : Heap) (locs : List Loc) (cells slots : Nat) (ls : Array Slot), HW D cls8 FTc AC A s.heap H locs w → lv_has ls 4 [(0, va_rf x0), (1, .int x1), (2, va_rf x2)] → cells + nc ≤ mc → slots + ns ≤ ms → W p l e { frames := 8, cells := mc, slots := ms, locals := 124 } s m args below meth c H locs cells slots (vx_MQ below (QQ D AC A (fun v w9 => ∃ r9 : Int32, v = some (.int r9) ∧ Q r9 w9)) (XX D AC A (fun _ _ => False)) args s mc ms A) (F0 m 0 ls []) := by
  obtain ⟨hl0, hx, hb, hr, ht, hown, hlocks, hnm, hml, hex, hK, hA, hZ, hV⟩ := id C
  intro H locs cells slots ls hW hl hc hs
  unfold wp_La_order at hq
  refine bw_aload_n hx hb d_La_order_0 rfl (lv_at hl 2 rfl) ?_
  refine lv_iconst (v := 0) hx hb d_La_order_1 (by decide) ?_
  refine bw_aload_n hx hb d_La_order_2 rfl (lv_at hl 0 rfl) ?_
  refine lv_iload_n hx hb d_La_order_3 rfl (lv_at hl 1 rfl) ?_
  obtain ⟨a1, ea1, hq⟩ := hq
  obtain ⟨t2, hq⟩ := hq
  obtain ⟨k5, k6, h7, h8, hq⟩ := hq
  refine bw_callV (As := [.int x1]) (rest := [.int (0 : Int32), va_rf x2]) C hW ci_Br_order m_709 m_710 m_711 d_La_order_4 ea1 t2 (by decide) rfl rfl rfl hl.1 (by simp [bw_cat, cat_i, cat_j]) ⟨Nat.le_of_ble_eq_true rfl, Nat.le_of_ble_eq_true rfl⟩ ⟨Nat.le_trans (Nat.add_le_add_left h7 _) hc, Nat.le_trans (Nat.add_le_add_left h8 _) hs⟩ (c_Br_order hl0 _ _ _ _ _ hq) ?_ (fun v3 w4 H locs hv hW => ?_)
  · intro E9 ce9 q13 w14 H locs hx9 hW g1 g2 g3
    have hc := bw_bud hc h7
    have hs := bw_bud hs h8
    rcases hx9 with ⟨rfl, hq⟩
    · refine bw_catch C (name := "java/util/NoSuchElementException") [] ⟨0, 9, 12, 21⟩ [] rfl (fun z hz => nomatch hz) (by decide) (by decide) m_337 (by decide +kernel) g1 g2 g3 ?_
      refine W.eq (g2 := F0 m 12 ls [va_rf (some q13)]) rfl ?_
      refine bw_astore_n (i := 3) (lv' := [(3, va_rf (some q13)), (0, va_rf x0), (1, .int x1), (2, va_rf x2)]) hx hb d_La_order_12 rfl hl (by decide) (by simp [bw_cat, cat_i, cat_j]) (fun ls hl => ?_)
      refine lv_iconst (v := 1) hx hb d_La_order_13 (by decide) ?_
      exact bw_iret C hW ⟨_, rfl, hq⟩ d_La_order_14 (Nat.le_trans (Nat.le_add_right _ _) hc) (Nat.le_trans (Nat.le_add_right _ _) hs)
  · obtain ⟨i9, rfl, hq⟩ := hv
    have hc := bw_bud hc h7
    have hs := bw_bud hs h8
    refine W.eq (g2 := F0 m 7 ls [.int i9, .int (0 : Int32), va_rf x2]) rfl ?_
    refine lv_i2l hx hb d_La_order_7 rfl ?_
    obtain ⟨a10, ea10, hq⟩ := hq
    obtain ⟨t11, hq⟩ := hq
    obtain ⟨h12, hq⟩ := hq
    refine bw_last C hW ea10 t11 h12 d_La_order_8 (fun H locs hW => ?_)
    refine lv_goto (tgt := 15) hx hb d_La_order_9 (by decide) ?_
    refine lv_iconst (v := 0) hx hb d_La_order_15 (by decide) ?_
    exact bw_iret C hW ⟨_, rfl, hq⟩ d_La_order_16 (Nat.le_trans (Nat.le_add_right _ _) hc) (Nat.le_trans (Nat.le_add_right _ _) hs)
theorem c_La_order {l : Launch} {D : va_G} {AC : Nat → ClassId} {e0 mi : Nat} {Q : Int32 → Wd → Prop} (hl0 : l.stackTraces = false) (x0 : Option Nat) (x1 : Int32) (x2 : Option Nat) (w : Wd) (nc ns : Nat) (hq : wp_La_order e0 mi x0 x1 x2 w nc ns Q) : Ct l D AC e0 mi n_La_order (wyW n_La_order b_La_order 4 (some .int) [(0, 9, 12, 21)]) 8 124 [va_rf x0, .int x1, va_rf x2] w nc ns (fun v w9 => ∃ r9 : Int32, v = some (.int r9) ∧ Q r9 w9) (fun _ _ => False) :=
  Ct.ofH hl0 (by decide) (by simp [lg_sl, bw_cat, cat_i, cat_j]) rfl (fun p e s m args below meth c A ls C hW hl => k_La_order_0 C x0 x1 x2 w nc ns hq s.heap [] 0 0 ls hW (by simpa [lv_args, bw_cat, cat_i, cat_j] using hl) (Nat.le_of_eq (Nat.zero_add _)) (Nat.le_of_eq (Nat.zero_add _)))
def wp_La_mean (e0 mi : Nat) (x0 : Option Nat) (x1 : Option Nat) (w : Wd) (nc ns : Nat) (Q : Int32 → Wd → Prop) : Prop :=
  ∃ a1 : Nat, x0 = some a1 ∧ (bw_is w a1 5 ∧ (∃ k5 k6 : Nat, k5 ≤ nc ∧ k6 ≤ ns ∧ wp_Br_mean e0 mi a1 w k5 k6 (fun i9 w4 => ∃ a10 : Nat, x1 = some a10 ∧ (bw_is w4 a10 102 ∧ (vp_in (0 : Int32) (wN w4 a10) ∧ (Q (0 : Int32) (sJ w4 a10 (0 : Int32).toNatClampNeg i9.toInt64))))) (fun E9 w14 => (E9 = "java/lang/ArithmeticException" ∧ (Q (1 : Int32) w14)))))
set_option maxHeartbeats 4000000 in
set_option maxRecDepth 100000 in
theorem k_La_mean_0 {p : Program} {l : Launch} {e : Env} {s : State} {m : MethodId} {args : Array Value} {below : List Frame} {meth : Method} {c : Code} {D : va_G} {AC : Nat → ClassId} {e0 mi : Nat} {A : Nat → Prop} {mc ms : Nat} {Q : Int32 → Wd → Prop} (C : CxT [⟨0, 8, 11, 75⟩] p l s m args meth c D AC e0 mi A n_La_mean b_La_mean 3 (some .int)) (x0 : Option Nat) (x1 : Option Nat) (w : Wd) (nc ns : Nat) (hq : wp_La_mean e0 mi x0 x1 w nc ns Q) : ∀ (H : Heap) (locs : List Loc) (cells slots : Nat) (ls : Array Slot), HW D cls8 FTc AC A s.heap H locs w → lv_has ls 3 [(0, va_rf x0), (1, va_rf x1)] → cells + nc ≤ mc → slots + ns ≤ ms → W p l e { frames := 8, cells := mc, slots := ms, locals := 124 } s m args below meth c H locs cells slots (vx_MQ below (QQ D AC A (fun v w9 => ∃ r9 : Int32, v = some (.int r9) ∧ Q r9 w9)) (XX D AC A (fun _ _ => False)) args s mc ms A) (F0 m 0 ls []) := by
  obtain ⟨hl0, hx, hb, hr, ht, hown, hlocks, hnm, hml, hex, hK, hA, hZ, hV⟩ := id C
  intro H locs cells slots ls hW hl hc hs
  unfold wp_La_mean at hq
  refine bw_aload_n hx hb d_La_mean_0 rfl (lv_at hl 1 rfl) ?_
  refine lv_iconst (v := 0) hx hb d_La_mean_1 (by decide) ?_
  refine bw_aload_n hx hb d_La_mean_2 rfl (lv_at hl 0 rfl) ?_
  obtain ⟨a1, ea1, hq⟩ := hq
  obtain ⟨t2, hq⟩ := hq
  obtain ⟨k5, k6, h7, h8, hq⟩ := hq
  refine bw_callV (As := []) (rest := [.int (0 : Int32), va_rf x1]) C hW ci_Br_mean m_718 m_719 m_720 d_La_mean_3 ea1 t2 (by decide) rfl rfl rfl hl.1 (by simp [bw_cat, cat_i, cat_j]) ⟨Nat.le_of_ble_eq_true rfl, Nat.le_of_ble_eq_true rfl⟩ ⟨Nat.le_trans (Nat.add_le_add_left h7 _) hc, Nat.le_trans (Nat.add_le_add_left h8 _) hs⟩ (c_Br_mean hl0 _ _ _ _ hq) ?_ (fun v3 w4 H locs hv hW => ?_)
  · intro E9 ce9 q13 w14 H locs hx9 hW g1 g2 g3
    have hc := bw_bud hc h7
    have hs := bw_bud hs h8
    rcases hx9 with ⟨rfl, hq⟩
    · refine bw_catch C (name := "java/lang/ArithmeticException") [] ⟨0, 8, 11, 75⟩ [] rfl (fun z hz => nomatch hz) (by decide) (by decide) m_717 (by decide +kernel) g1 g2 g3 ?_
      refine W.eq (g2 := F0 m 11 ls [va_rf (some q13)]) rfl ?_
      refine bw_astore_n (i := 2) (lv' := [(2, va_rf (some q13)), (0, va_rf x0), (1, va_rf x1)]) hx hb d_La_mean_11 rfl hl (by decide) (by simp [bw_cat, cat_i, cat_j]) (fun ls hl => ?_)
      refine lv_iconst (v := 1) hx hb d_La_mean_12 (by decide) ?_
      exact bw_iret C hW ⟨_, rfl, hq⟩ d_La_mean_13 (Nat.le_trans (Nat.le_add_right _ _) hc) (Nat.le_trans (Nat.le_add_right _ _) hs)
  · obtain ⟨i9, rfl, hq⟩ := hv
    have hc := bw_bud hc h7
    have hs := bw_bud hs h8
    refine W.eq (g2 := F0 m 6 ls [.int i9, .int (0 : Int32), va_rf x1]) rfl ?_
    refine lv_i2l hx hb d_La_mean_6 rfl ?_
    obtain ⟨a10, ea10, hq⟩ := hq
    obtain ⟨t11, hq⟩ := hq
    obtain ⟨h12, hq⟩ := hq
    refine bw_last C hW ea10 t11 h12 d_La_mean_7 (fun H locs hW => ?_)
    refine lv_goto (tgt := 14) hx hb d_La_mean_8 (by decide) ?_
    refine lv_iconst (v := 0) hx hb d_La_mean_14 (by decide) ?_
    exact bw_iret C hW ⟨_, rfl, hq⟩ d_La_mean_15 (Nat.le_trans (Nat.le_add_right _ _) hc) (Nat.le_trans (Nat.le_add_right _ _) hs)
theorem c_La_mean {l : Launch} {D : va_G} {AC : Nat → ClassId} {e0 mi : Nat} {Q : Int32 → Wd → Prop} (hl0 : l.stackTraces = false) (x0 : Option Nat) (x1 : Option Nat) (w : Wd) (nc ns : Nat) (hq : wp_La_mean e0 mi x0 x1 w nc ns Q) : Ct l D AC e0 mi n_La_mean (wyW n_La_mean b_La_mean 3 (some .int) [(0, 8, 11, 75)]) 8 124 [va_rf x0, va_rf x1] w nc ns (fun v w9 => ∃ r9 : Int32, v = some (.int r9) ∧ Q r9 w9) (fun _ _ => False) :=
  Ct.ofH hl0 (by decide) (by simp [lg_sl, bw_cat, cat_i, cat_j]) rfl (fun p e s m args below meth c A ls C hW hl => k_La_mean_0 C x0 x1 w nc ns hq s.heap [] 0 0 ls hW (by simpa [lv_args, bw_cat, cat_i, cat_j] using hl) (Nat.le_of_eq (Nat.zero_add _)) (Nat.le_of_eq (Nat.zero_add _)))
