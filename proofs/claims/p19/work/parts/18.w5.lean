/-! printed by wip/gen/walk.py out of the bytecode: Mo_in Mo_belt Mo_isBelt Mo_join Mo_run Mo_gaps Mo_scanner Mo_last Mo_rear Mo_missing Mo_come Mo_item Mo_isItem Mo_divert Mo_tell Mo_readDue Mo_atEnd Mo_goesBy Mo_indexOf Mo_leave Mo_exchange Mo_move Mo_step Mo_edge Mo_slip Mo_take Mo_clean Mo_gap Mo_told Mo_known Mo_order Mo_mean Mo_count -/
def wb_Mo_in_15 (e0 mi : Nat) (Q : Int32 → Wd → Prop) (x0 : Int32) (x1 : Int32) (x2 : Int32) (z0 : Int32) (w : Wd) : Prop :=
  bw_b z0 ∧ Q z0 w
set_option maxHeartbeats 4000000 in
set_option maxRecDepth 100000 in
theorem k_Mo_in_15 {p : Program} {l : Launch} {e : Env} {s : State} {m : MethodId} {args : Array Value} {below : List Frame} {meth : Method} {c : Code} {D : va_G} {AC : Nat → ClassId} {e0 mi : Nat} {A : Nat → Prop} {mc ms : Nat} {Q : Int32 → Wd → Prop} (C : Cx p l s m args meth c D AC e0 mi A n_Mo_in b_Mo_in 3 (some .boolean)) (x0 : Int32) (x1 : Int32) (x2 : Int32) (z0 : Int32) (w : Wd) (hq : wb_Mo_in_15 e0 mi Q x0 x1 x2 z0 w) : ∀ (H : Heap) (locs : List Loc) (cells slots : Nat) (ls : Array Slot), HW D cls8 FTc AC A s.heap H locs w → lv_has ls 3 [(0, .int x0), (1, .int x1), (2, .int x2)] → cells ≤ mc → slots ≤ ms → W p l e { frames := 0, cells := mc, slots := ms, locals := 0 } s m args below meth c H locs cells slots (vx_MQ below (QQ D AC A (fun v w9 => ∃ r9 : Int32, v = some (.int r9) ∧ Q r9 w9)) (XX D AC A (fun _ _ => False)) args s mc ms A) (F0 m 15 ls [.int z0]) := by
  obtain ⟨hl0, hx, hb, hr, ht, hown, hlocks, hnm, hml, hex, hK, hA, hZ, hV⟩ := id C
  intro H locs cells slots ls hW hl hc hs
  unfold wb_Mo_in_15 at hq
  obtain ⟨h1, hq⟩ := hq
  exact bw_zret C hW (bw_bn h1) ⟨_, rfl, hq⟩ d_Mo_in_15 hc hs
def wb_Mo_in_14 (e0 mi : Nat) (Q : Int32 → Wd → Prop) (x0 : Int32) (x1 : Int32) (x2 : Int32) (w : Wd) : Prop :=
  wb_Mo_in_15 e0 mi Q x0 x1 x2 (0 : Int32) w
set_option maxHeartbeats 4000000 in
set_option maxRecDepth 100000 in
theorem k_Mo_in_14 {p : Program} {l : Launch} {e : Env} {s : State} {m : MethodId} {args : Array Value} {below : List Frame} {meth : Method} {c : Code} {D : va_G} {AC : Nat → ClassId} {e0 mi : Nat} {A : Nat → Prop} {mc ms : Nat} {Q : Int32 → Wd → Prop} (C : Cx p l s m args meth c D AC e0 mi A n_Mo_in b_Mo_in 3 (some .boolean)) (x0 : Int32) (x1 : Int32) (x2 : Int32) (w : Wd) (hq : wb_Mo_in_14 e0 mi Q x0 x1 x2 w) : ∀ (H : Heap) (locs : List Loc) (cells slots : Nat) (ls : Array Slot), HW D cls8 FTc AC A s.heap H locs w → lv_has ls 3 [(0, .int x0), (1, .int x1), (2, .int x2)] → cells ≤ mc → slots ≤ ms → W p l e { frames := 0, cells := mc, slots := ms, locals := 0 } s m args below meth c H locs cells slots (vx_MQ below (QQ D AC A (fun v w9 => ∃ r9 : Int32, v = some (.int r9) ∧ Q r9 w9)) (XX D AC A (fun _ _ => False)) args s mc ms A) (F0 m 14 ls []) := by
  obtain ⟨hl0, hx, hb, hr, ht, hown, hlocks, hnm, hml, hex, hK, hA, hZ, hV⟩ := id C
  intro H locs cells slots ls hW hl hc hs
  unfold wb_Mo_in_14 at hq
  refine lv_iconst (v := 0) hx hb d_Mo_in_14 (by decide) ?_
  exact k_Mo_in_15 C  _ _ _ _ _ hq _ _ _ _ _ hW (lv_sub hl [0, 1, 2] rfl) hc hs
def wp_Mo_in (e0 mi : Nat) (x0 : Int32) (x1 : Int32) (x2 : Int32) (w : Wd) (Q : Int32 → Wd → Prop) : Prop :=
  (x0 < x1 → (wb_Mo_in_14 e0 mi Q x0 x1 x2 w)) ∧ (¬ x0 < x1 → ((x2 < x0 → (wb_Mo_in_14 e0 mi Q x0 x1 x2 w)) ∧ (¬ x2 < x0 → (wb_Mo_in_15 e0 mi Q x0 x1 x2 (1 : Int32) w))))
set_option maxHeartbeats 4000000 in
set_option maxRecDepth 100000 in
theorem k_Mo_in_0 {p : Program} {l : Launch} {e : Env} {s : State} {m : MethodId} {args : Array Value} {below : List Frame} {meth : Method} {c : Code} {D : va_G} {AC : Nat → ClassId} {e0 mi : Nat} {A : Nat → Prop} {mc ms : Nat} {Q : Int32 → Wd → Prop} (C : Cx p l s m args meth c D AC e0 mi A n_Mo_in b_Mo_in 3 (some .boolean)) (x0 : Int32) (x1 : Int32) (x2 : Int32) (w : Wd) (hq : wp_Mo_in e0 mi x0 x1 x2 w Q) : ∀ (H : Heap) (locs : List Loc) (cells slots : Nat) (ls : Array Slot), HW D cls8 FTc AC A s.heap H locs w → lv_has ls 3 [(0, .int x0), (1, .int x1), (2, .int x2)] → cells ≤ mc → slots ≤ ms → W p l e { frames := 0, cells := mc, slots := ms, locals := 0 } s m args below meth c H locs cells slots (vx_MQ below (QQ D AC A (fun v w9 => ∃ r9 : Int32, v = some (.int r9) ∧ Q r9 w9)) (XX D AC A (fun _ _ => False)) args s mc ms A) (F0 m 0 ls []) := by
  obtain ⟨hl0, hx, hb, hr, ht, hown, hlocks, hnm, hml, hex, hK, hA, hZ, hV⟩ := id C
  intro H locs cells slots ls hW hl hc hs
  unfold wp_Mo_in at hq
  refine lv_iload_n hx hb d_Mo_in_0 rfl (lv_at hl 0 rfl) ?_
  refine lv_iload_n hx hb d_Mo_in_1 rfl (lv_at hl 1 rfl) ?_
  refine lv_icmp_lt (tgt := 14) hx hb d_Mo_in_2 (by decide) (fun c1 => ?_) (fun c1 => ?_)
  · have hq := hq.1 c1
    exact k_Mo_in_14 C  _ _ _ _ hq _ _ _ _ _ hW (lv_sub hl [0, 1, 2] rfl) hc hs
  · have hq := hq.2 c1
    refine lv_iload_n hx hb d_Mo_in_5 rfl (lv_at hl 0 rfl) ?_
    refine lv_iload_n hx hb d_Mo_in_6 rfl (lv_at hl 2 rfl) ?_
    refine lv_icmp_gt (tgt := 14) hx hb d_Mo_in_7 (by decide) (fun c2 => ?_) (fun c2 => ?_)
    · have hq := hq.1 c2
      exact k_Mo_in_14 C  _ _ _ _ hq _ _ _ _ _ hW (lv_sub hl [0, 1, 2] rfl) hc hs
    · have hq := hq.2 c2
      refine lv_iconst (v := 1) hx hb d_Mo_in_10 (by decide) ?_
      refine lv_goto (tgt := 15) hx hb d_Mo_in_11 (by decide) ?_
      exact k_Mo_in_15 C  _ _ _ _ _ hq _ _ _ _ _ hW (lv_sub hl [0, 1, 2] rfl) hc hs
theorem ci_Mo_in : CI n_Mo_in b_Mo_in 3 (some .boolean) 3 := ⟨m_850, m_5, by decide, by decide, by decide +kernel⟩
theorem c_Mo_in {l : Launch} {D : va_G} {AC : Nat → ClassId} {e0 mi : Nat} {Q : Int32 → Wd → Prop} (hl0 : l.stackTraces = false) (x0 : Int32) (x1 : Int32) (x2 : Int32) (w : Wd) (hq : wp_Mo_in e0 mi x0 x1 x2 w Q) : Ct l D AC e0 mi n_Mo_in (wy n_Mo_in b_Mo_in 3 (some .boolean)) 0 0 [.int x0, .int x1, .int x2] w 0 0 (fun v w9 => ∃ r9 : Int32, v = some (.int r9) ∧ Q r9 w9) (fun _ _ => False) :=
  Ct.of hl0 (by decide) (by simp [lg_sl, bw_cat, cat_i, cat_j]) (fun p e s m args below meth c A ls C hW hl => k_Mo_in_0 C x0 x1 x2 w hq s.heap [] 0 0 ls hW (by simpa [lv_args, bw_cat, cat_i, cat_j] using hl) (Nat.le_refl _) (Nat.le_refl _))
def wb_Mo_belt_41 (e0 mi : Nat) (Q : Int32 → Wd → Prop) (x0 : Nat) (x1 : Int32) (x2 : Int32) (z0 : Option Nat) (z1 : Int32) (w : Wd) : Prop :=
  ∃ a1 : Nat, z0 = some a1 ∧ (bw_is w a1 6 ∧ (bw_is (sI w a1 0 z1) x0 6 ∧ (((wI (sI w a1 0 z1) x0 0) ≤ 0 → (∃ a5 : Nat, (wR (sI w a1 0 z1) x0 4) = some a5 ∧ (bw_is (sI w a1 0 z1) a5 101 ∧ (vp_in (wI (sI w a1 0 z1) x0 3) (wN (sI w a1 0 z1) a5) ∧ (∃ a8 : Nat, (wR (sI (sI w a1 0 z1) a5 (wI (sI w a1 0 z1) x0 3).toNatClampNeg x1) x0 5) = some a8 ∧ (bw_is (sI (sI w a1 0 z1) a5 (wI (sI w a1 0 z1) x0 3).toNatClampNeg x1) a8 101 ∧ (vp_in (wI (sI (sI w a1 0 z1) a5 (wI (sI w a1 0 z1) x0 3).toNatClampNeg x1) x0 3) (wN (sI (sI w a1 0 z1) a5 (wI (sI w a1 0 z1) x0 3).toNatClampNeg x1) a8) ∧ (∃ a11 : Nat, (wR (sI (sI (sI w a1 0 z1) a5 (wI (sI w a1 0 z1) x0 3).toNatClampNeg x1) a8 (wI (sI (sI w a1 0 z1) a5 (wI (sI w a1 0 z1) x0 3).toNatClampNeg x1) x0 3).toNatClampNeg x2) x0 6) = some a11 ∧ (bw_is (sI (sI (sI w a1 0 z1) a5 (wI (sI w a1 0 z1) x0 3).toNatClampNeg x1) a8 (wI (sI (sI w a1 0 z1) a5 (wI (sI w a1 0 z1) x0 3).toNatClampNeg x1) x0 3).toNatClampNeg x2) a11 103 ∧ (vp_in (wI (sI (sI (sI w a1 0 z1) a5 (wI (sI w a1 0 z1) x0 3).toNatClampNeg x1) a8 (wI (sI (sI w a1 0 z1) a5 (wI (sI w a1 0 z1) x0 3).toNatClampNeg x1) x0 3).toNatClampNeg x2) x0 3) (wN (sI (sI (sI w a1 0 z1) a5 (wI (sI w a1 0 z1) x0 3).toNatClampNeg x1) a8 (wI (sI (sI w a1 0 z1) a5 (wI (sI w a1 0 z1) x0 3).toNatClampNeg x1) x0 3).toNatClampNeg x2) a11) ∧ (∃ a14 : Nat, (wR (sI (sI (sI (sI w a1 0 z1) a5 (wI (sI w a1 0 z1) x0 3).toNatClampNeg x1) a8 (wI (sI (sI w a1 0 z1) a5 (wI (sI w a1 0 z1) x0 3).toNatClampNeg x1) x0 3).toNatClampNeg x2) a11 (wI (sI (sI (sI w a1 0 z1) a5 (wI (sI w a1 0 z1) x0 3).toNatClampNeg x1) a8 (wI (sI (sI w a1 0 z1) a5 (wI (sI w a1 0 z1) x0 3).toNatClampNeg x1) x0 3).toNatClampNeg x2) x0 3).toNatClampNeg (vp_nar .boolean (1 : Int32))) x0 7) = some a14 ∧ (bw_is (sI (sI (sI (sI w a1 0 z1) a5 (wI (sI w a1 0 z1) x0 3).toNatClampNeg x1) a8 (wI (sI (sI w a1 0 z1) a5 (wI (sI w a1 0 z1) x0 3).toNatClampNeg x1) x0 3).toNatClampNeg x2) a11 (wI (sI (sI (sI w a1 0 z1) a5 (wI (sI w a1 0 z1) x0 3).toNatClampNeg x1) a8 (wI (sI (sI w a1 0 z1) a5 (wI (sI w a1 0 z1) x0 3).toNatClampNeg x1) x0 3).toNatClampNeg x2) x0 3).toNatClampNeg (vp_nar .boolean (1 : Int32))) a14 101 ∧ (vp_in ((2 : Int32) * (wI (sI (sI (sI (sI w a1 0 z1) a5 (wI (sI w a1 0 z1) x0 3).toNatClampNeg x1) a8 (wI (sI (sI w a1 0 z1) a5 (wI (sI w a1 0 z1) x0 3).toNatClampNeg x1) x0 3).toNatClampNeg x2) a11 (wI (sI (sI (sI w a1 0 z1) a5 (wI (sI w a1 0 z1) x0 3).toNatClampNeg x1) a8 (wI (sI (sI w a1 0 z1) a5 (wI (sI w a1 0 z1) x0 3).toNatClampNeg x1) x0 3).toNatClampNeg x2) x0 3).toNatClampNeg (vp_nar .boolean (1 : Int32))) x0 3)) (wN (sI (sI (sI (sI w a1 0 z1) a5 (wI (sI w a1 0 z1) x0 3).toNatClampNeg x1) a8 (wI (sI (sI w a1 0 z1) a5 (wI (sI w a1 0 z1) x0 3).toNatClampNeg x1) x0 3).toNatClampNeg x2) a11 (wI (sI (sI (sI w a1 0 z1) a5 (wI (sI w a1 0 z1) x0 3).toNatClampNeg x1) a8 (wI (sI (sI w a1 0 z1) a5 (wI (sI w a1 0 z1) x0 3).toNatClampNeg x1) x0 3).toNatClampNeg x2) x0 3).toNatClampNeg (vp_nar .boolean (1 : Int32))) a14) ∧ (∃ a17 : Nat, (wR (sI (sI (sI (sI (sI w a1 0 z1) a5 (wI (sI w a1 0 z1) x0 3).toNatClampNeg x1) a8 (wI (sI (sI w a1 0 z1) a5 (wI (sI w a1 0 z1) x0 3).toNatClampNeg x1) x0 3).toNatClampNeg x2) a11 (wI (sI (sI (sI w a1 0 z1) a5 (wI (sI w a1 0 z1) x0 3).toNatClampNeg x1) a8 (wI (sI (sI w a1 0 z1) a5 (wI (sI w a1 0 z1) x0 3).toNatClampNeg x1) x0 3).toNatClampNeg x2) x0 3).toNatClampNeg (vp_nar .boolean (1 : Int32))) a14 ((2 : Int32) * (wI (sI (sI (sI (sI w a1 0 z1) a5 (wI (sI w a1 0 z1) x0 3).toNatClampNeg x1) a8 (wI (sI (sI w a1 0 z1) a5 (wI (sI w a1 0 z1) x0 3).toNatClampNeg x1) x0 3).toNatClampNeg x2) a11 (wI (sI (sI (sI w a1 0 z1) a5 (wI (sI w a1 0 z1) x0 3).toNatClampNeg x1) a8 (wI (sI (sI w a1 0 z1) a5 (wI (sI w a1 0 z1) x0 3).toNatClampNeg x1) x0 3).toNatClampNeg x2) x0 3).toNatClampNeg (vp_nar .boolean (1 : Int32))) x0 3)).toNatClampNeg (-1 : Int32)) x0 7) = some a17 ∧ (bw_is (sI (sI (sI (sI (sI w a1 0 z1) a5 (wI (sI w a1 0 z1) x0 3).toNatClampNeg x1) a8 (wI (sI (sI w a1 0 z1) a5 (wI (sI w a1 0 z1) x0 3).toNatClampNeg x1) x0 3).toNatClampNeg x2) a11 (wI (sI (sI (sI w a1 0 z1) a5 (wI (sI w a1 0 z1) x0 3).toNatClampNeg x1) a8 (wI (sI (sI w a1 0 z1) a5 (wI (sI w a1 0 z1) x0 3).toNatClampNeg x1) x0 3).toNatClampNeg x2) x0 3).toNatClampNeg (vp_nar .boolean (1 : Int32))) a14 ((2 : Int32) * (wI (sI (sI (sI (sI w a1 0 z1) a5 (wI (sI w a1 0 z1) x0 3).toNatClampNeg x1) a8 (wI (sI (sI w a1 0 z1) a5 (wI (sI w a1 0 z1) x0 3).toNatClampNeg x1) x0 3).toNatClampNeg x2) a11 (wI (sI (sI (sI w a1 0 z1) a5 (wI (sI w a1 0 z1) x0 3).toNatClampNeg x1) a8 (wI (sI (sI w a1 0 z1) a5 (wI (sI w a1 0 z1) x0 3).toNatClampNeg x1) x0 3).toNatClampNeg x2) x0 3).toNatClampNeg (vp_nar .boolean (1 : Int32))) x0 3)).toNatClampNeg (-1 : Int32)) a17 101 ∧ (vp_in (((2 : Int32) * (wI (sI (sI (sI (sI (sI w a1 0 z1) a5 (wI (sI w a1 0 z1) x0 3).toNatClampNeg x1) a8 (wI (sI (sI w a1 0 z1) a5 (wI (sI w a1 0 z1) x0 3).toNatClampNeg x1) x0 3).toNatClampNeg x2) a11 (wI (sI (sI (sI w a1 0 z1) a5 (wI (sI w a1 0 z1) x0 3).toNatClampNeg x1) a8 (wI (sI (sI w a1 0 z1) a5 (wI (sI w a1 0 z1) x0 3).toNatClampNeg x1) x0 3).toNatClampNeg x2) x0 3).toNatClampNeg (vp_nar .boolean (1 : Int32))) a14 ((2 : Int32) * (wI (sI (sI (sI (sI w a1 0 z1) a5 (wI (sI w a1 0 z1) x0 3).toNatClampNeg x1) a8 (wI (sI (sI w a1 0 z1) a5 (wI (sI w a1 0 z1) x0 3).toNatClampNeg x1) x0 3).toNatClampNeg x2) a11 (wI (sI (sI (sI w a1 0 z1) a5 (wI (sI w a1 0 z1) x0 3).toNatClampNeg x1) a8 (wI (sI (sI w a1 0 z1) a5 (wI (sI w a1 0 z1) x0 3).toNatClampNeg x1) x0 3).toNatClampNeg x2) x0 3).toNatClampNeg (vp_nar .boolean (1 : Int32))) x0 3)).toNatClampNeg (-1 : Int32)) x0 3)) + (1 : Int32)) (wN (sI (sI (sI (sI (sI w a1 0 z1) a5 (wI (sI w a1 0 z1) x0 3).toNatClampNeg x1) a8 (wI (sI (sI w a1 0 z1) a5 (wI (sI w a1 0 z1) x0 3).toNatClampNeg x1) x0 3).toNatClampNeg x2) a11 (wI (sI (sI (sI w a1 0 z1) a5 (wI (sI w a1 0 z1) x0 3).toNatClampNeg x1) a8 (wI (sI (sI w a1 0 z1) a5 (wI (sI w a1 0 z1) x0 3).toNatClampNeg x1) x0 3).toNatClampNeg x2) x0 3).toNatClampNeg (vp_nar .boolean (1 : Int32))) a14 ((2 : Int32) * (wI (sI (sI (sI (sI w a1 0 z1) a5 (wI (sI w a1 0 z1) x0 3).toNatClampNeg x1) a8 (wI (sI (sI w a1 0 z1) a5 (wI (sI w a1 0 z1) x0 3).toNatClampNeg x1) x0 3).toNatClampNeg x2) a11 (wI (sI (sI (sI w a1 0 z1) a5 (wI (sI w a1 0 z1) x0 3).toNatClampNeg x1) a8 (wI (sI (sI w a1 0 z1) a5 (wI (sI w a1 0 z1) x0 3).toNatClampNeg x1) x0 3).toNatClampNeg x2) x0 3).toNatClampNeg (vp_nar .boolean (1 : Int32))) x0 3)).toNatClampNeg (-1 : Int32)) a17) ∧ (Q ((wI (sI (sI (sI (sI (sI (sI (sI w a1 0 z1) a5 (wI (sI w a1 0 z1) x0 3).toNatClampNeg x1) a8 (wI (sI (sI w a1 0 z1) a5 (wI (sI w a1 0 z1) x0 3).toNatClampNeg x1) x0 3).toNatClampNeg x2) a11 (wI (sI (sI (sI w a1 0 z1) a5 (wI (sI w a1 0 z1) x0 3).toNatClampNeg x1) a8 (wI (sI (sI w a1 0 z1) a5 (wI (sI w a1 0 z1) x0 3).toNatClampNeg x1) x0 3).toNatClampNeg x2) x0 3).toNatClampNeg (vp_nar .boolean (1 : Int32))) a14 ((2 : Int32) * (wI (sI (sI (sI (sI w a1 0 z1) a5 (wI (sI w a1 0 z1) x0 3).toNatClampNeg x1) a8 (wI (sI (sI w a1 0 z1) a5 (wI (sI w a1 0 z1) x0 3).toNatClampNeg x1) x0 3).toNatClampNeg x2) a11 (wI (sI (sI (sI w a1 0 z1) a5 (wI (sI w a1 0 z1) x0 3).toNatClampNeg x1) a8 (wI (sI (sI w a1 0 z1) a5 (wI (sI w a1 0 z1) x0 3).toNatClampNeg x1) x0 3).toNatClampNeg x2) x0 3).toNatClampNeg (vp_nar .boolean (1 : Int32))) x0 3)).toNatClampNeg (-1 : Int32)) a17 (((2 : Int32) * (wI (sI (sI (sI (sI (sI w a1 0 z1) a5 (wI (sI w a1 0 z1) x0 3).toNatClampNeg x1) a8 (wI (sI (sI w a1 0 z1) a5 (wI (sI w a1 0 z1) x0 3).toNatClampNeg x1) x0 3).toNatClampNeg x2) a11 (wI (sI (sI (sI w a1 0 z1) a5 (wI (sI w a1 0 z1) x0 3).toNatClampNeg x1) a8 (wI (sI (sI w a1 0 z1) a5 (wI (sI w a1 0 z1) x0 3).toNatClampNeg x1) x0 3).toNatClampNeg x2) x0 3).toNatClampNeg (vp_nar .boolean (1 : Int32))) a14 ((2 : Int32) * (wI (sI (sI (sI (sI w a1 0 z1) a5 (wI (sI w a1 0 z1) x0 3).toNatClampNeg x1) a8 (wI (sI (sI w a1 0 z1) a5 (wI (sI w a1 0 z1) x0 3).toNatClampNeg x1) x0 3).toNatClampNeg x2) a11 (wI (sI (sI (sI w a1 0 z1) a5 (wI (sI w a1 0 z1) x0 3).toNatClampNeg x1) a8 (wI (sI (sI w a1 0 z1) a5 (wI (sI w a1 0 z1) x0 3).toNatClampNeg x1) x0 3).toNatClampNeg x2) x0 3).toNatClampNeg (vp_nar .boolean (1 : Int32))) x0 3)).toNatClampNeg (-1 : Int32)) x0 3)) + (1 : Int32)).toNatClampNeg (-1 : Int32)) x0 3 ((wI (sI (sI (sI (sI (sI (sI w a1 0 z1) a5 (wI (sI w a1 0 z1) x0 3).toNatClampNeg x1) a8 (wI (sI (sI w a1 0 z1) a5 (wI (sI w a1 0 z1) x0 3).toNatClampNeg x1) x0 3).toNatClampNeg x2) a11 (wI (sI (sI (sI w a1 0 z1) a5 (wI (sI w a1 0 z1) x0 3).toNatClampNeg x1) a8 (wI (sI (sI w a1 0 z1) a5 (wI (sI w a1 0 z1) x0 3).toNatClampNeg x1) x0 3).toNatClampNeg x2) x0 3).toNatClampNeg (vp_nar .boolean (1 : Int32))) a14 ((2 : Int32) * (wI (sI (sI (sI (sI w a1 0 z1) a5 (wI (sI w a1 0 z1) x0 3).toNatClampNeg x1) a8 (wI (sI (sI w a1 0 z1) a5 (wI (sI w a1 0 z1) x0 3).toNatClampNeg x1) x0 3).toNatClampNeg x2) a11 (wI (sI (sI (sI w a1 0 z1) a5 (wI (sI w a1 0 z1) x0 3).toNatClampNeg x1) a8 (wI (sI (sI w a1 0 z1) a5 (wI (sI w a1 0 z1) x0 3).toNatClampNeg x1) x0 3).toNatClampNeg x2) x0 3).toNatClampNeg (vp_nar .boolean (1 : Int32))) x0 3)).toNatClampNeg (-1 : Int32)) a17 (((2 : Int32) * (wI (sI (sI (sI (sI (sI w a1 0 z1) a5 (wI (sI w a1 0 z1) x0 3).toNatClampNeg x1) a8 (wI (sI (sI w a1 0 z1) a5 (wI (sI w a1 0 z1) x0 3).toNatClampNeg x1) x0 3).toNatClampNeg x2) a11 (wI (sI (sI (sI w a1 0 z1) a5 (wI (sI w a1 0 z1) x0 3).toNatClampNeg x1) a8 (wI (sI (sI w a1 0 z1) a5 (wI (sI w a1 0 z1) x0 3).toNatClampNeg x1) x0 3).toNatClampNeg x2) x0 3).toNatClampNeg (vp_nar .boolean (1 : Int32))) a14 ((2 : Int32) * (wI (sI (sI (sI (sI w a1 0 z1) a5 (wI (sI w a1 0 z1) x0 3).toNatClampNeg x1) a8 (wI (sI (sI w a1 0 z1) a5 (wI (sI w a1 0 z1) x0 3).toNatClampNeg x1) x0 3).toNatClampNeg x2) a11 (wI (sI (sI (sI w a1 0 z1) a5 (wI (sI w a1 0 z1) x0 3).toNatClampNeg x1) a8 (wI (sI (sI w a1 0 z1) a5 (wI (sI w a1 0 z1) x0 3).toNatClampNeg x1) x0 3).toNatClampNeg x2) x0 3).toNatClampNeg (vp_nar .boolean (1 : Int32))) x0 3)).toNatClampNeg (-1 : Int32)) x0 3)) + (1 : Int32)).toNatClampNeg (-1 : Int32)) x0 3) + (1 : Int32))) x0 3) - (1 : Int32)) (sI (sI (sI (sI (sI (sI (sI w a1 0 z1) a5 (wI (sI w a1 0 z1) x0 3).toNatClampNeg x1) a8 (wI (sI (sI w a1 0 z1) a5 (wI (sI w a1 0 z1) x0 3).toNatClampNeg x1) x0 3).toNatClampNeg x2) a11 (wI (sI (sI (sI w a1 0 z1) a5 (wI (sI w a1 0 z1) x0 3).toNatClampNeg x1) a8 (wI (sI (sI w a1 0 z1) a5 (wI (sI w a1 0 z1) x0 3).toNatClampNeg x1) x0 3).toNatClampNeg x2) x0 3).toNatClampNeg (vp_nar .boolean (1 : Int32))) a14 ((2 : Int32) * (wI (sI (sI (sI (sI w a1 0 z1) a5 (wI (sI w a1 0 z1) x0 3).toNatClampNeg x1) a8 (wI (sI (sI w a1 0 z1) a5 (wI (sI w a1 0 z1) x0 3).toNatClampNeg x1) x0 3).toNatClampNeg x2) a11 (wI (sI (sI (sI w a1 0 z1) a5 (wI (sI w a1 0 z1) x0 3).toNatClampNeg x1) a8 (wI (sI (sI w a1 0 z1) a5 (wI (sI w a1 0 z1) x0 3).toNatClampNeg x1) x0 3).toNatClampNeg x2) x0 3).toNatClampNeg (vp_nar .boolean (1 : Int32))) x0 3)).toNatClampNeg (-1 : Int32)) a17 (((2 : Int32) * (wI (sI (sI (sI (sI (sI w a1 0 z1) a5 (wI (sI w a1 0 z1) x0 3).toNatClampNeg x1) a8 (wI (sI (sI w a1 0 z1) a5 (wI (sI w a1 0 z1) x0 3).toNatClampNeg x1) x0 3).toNatClampNeg x2) a11 (wI (sI (sI (sI w a1 0 z1) a5 (wI (sI w a1 0 z1) x0 3).toNatClampNeg x1) a8 (wI (sI (sI w a1 0 z1) a5 (wI (sI w a1 0 z1) x0 3).toNatClampNeg x1) x0 3).toNatClampNeg x2) x0 3).toNatClampNeg (vp_nar .boolean (1 : Int32))) a14 ((2 : Int32) * (wI (sI (sI (sI (sI w a1 0 z1) a5 (wI (sI w a1 0 z1) x0 3).toNatClampNeg x1) a8 (wI (sI (sI w a1 0 z1) a5 (wI (sI w a1 0 z1) x0 3).toNatClampNeg x1) x0 3).toNatClampNeg x2) a11 (wI (sI (sI (sI w a1 0 z1) a5 (wI (sI w a1 0 z1) x0 3).toNatClampNeg x1) a8 (wI (sI (sI w a1 0 z1) a5 (wI (sI w a1 0 z1) x0 3).toNatClampNeg x1) x0 3).toNatClampNeg x2) x0 3).toNatClampNeg (vp_nar .boolean (1 : Int32))) x0 3)).toNatClampNeg (-1 : Int32)) x0 3)) + (1 : Int32)).toNatClampNeg (-1 : Int32)) x0 3 ((wI (sI (sI (sI (sI (sI (sI w a1 0 z1) a5 (wI (sI w a1 0 z1) x0 3).toNatClampNeg x1) a8 (wI (sI (sI w a1 0 z1) a5 (wI (sI w a1 0 z1) x0 3).toNatClampNeg x1) x0 3).toNatClampNeg x2) a11 (wI (sI (sI (sI w a1 0 z1) a5 (wI (sI w a1 0 z1) x0 3).toNatClampNeg x1) a8 (wI (sI (sI w a1 0 z1) a5 (wI (sI w a1 0 z1) x0 3).toNatClampNeg x1) x0 3).toNatClampNeg x2) x0 3).toNatClampNeg (vp_nar .boolean (1 : Int32))) a14 ((2 : Int32) * (wI (sI (sI (sI (sI w a1 0 z1) a5 (wI (sI w a1 0 z1) x0 3).toNatClampNeg x1) a8 (wI (sI (sI w a1 0 z1) a5 (wI (sI w a1 0 z1) x0 3).toNatClampNeg x1) x0 3).toNatClampNeg x2) a11 (wI (sI (sI (sI w a1 0 z1) a5 (wI (sI w a1 0 z1) x0 3).toNatClampNeg x1) a8 (wI (sI (sI w a1 0 z1) a5 (wI (sI w a1 0 z1) x0 3).toNatClampNeg x1) x0 3).toNatClampNeg x2) x0 3).toNatClampNeg (vp_nar .boolean (1 : Int32))) x0 3)).toNatClampNeg (-1 : Int32)) a17 (((2 : Int32) * (wI (sI (sI (sI (sI (sI w a1 0 z1) a5 (wI (sI w a1 0 z1) x0 3).toNatClampNeg x1) a8 (wI (sI (sI w a1 0 z1) a5 (wI (sI w a1 0 z1) x0 3).toNatClampNeg x1) x0 3).toNatClampNeg x2) a11 (wI (sI (sI (sI w a1 0 z1) a5 (wI (sI w a1 0 z1) x0 3).toNatClampNeg x1) a8 (wI (sI (sI w a1 0 z1) a5 (wI (sI w a1 0 z1) x0 3).toNatClampNeg x1) x0 3).toNatClampNeg x2) x0 3).toNatClampNeg (vp_nar .boolean (1 : Int32))) a14 ((2 : Int32) * (wI (sI (sI (sI (sI w a1 0 z1) a5 (wI (sI w a1 0 z1) x0 3).toNatClampNeg x1) a8 (wI (sI (sI w a1 0 z1) a5 (wI (sI w a1 0 z1) x0 3).toNatClampNeg x1) x0 3).toNatClampNeg x2) a11 (wI (sI (sI (sI w a1 0 z1) a5 (wI (sI w a1 0 z1) x0 3).toNatClampNeg x1) a8 (wI (sI (sI w a1 0 z1) a5 (wI (sI w a1 0 z1) x0 3).toNatClampNeg x1) x0 3).toNatClampNeg x2) x0 3).toNatClampNeg (vp_nar .boolean (1 : Int32))) x0 3)).toNatClampNeg (-1 : Int32)) x0 3)) + (1 : Int32)).toNatClampNeg (-1 : Int32)) x0 3) + (1 : Int32)))))))))))))))))))) ∧ (¬ (wI (sI w a1 0 z1) x0 0) ≤ 0 → (Q (0 : Int32) (sI w a1 0 z1))))))
set_option maxHeartbeats 4000000 in
set_option maxRecDepth 100000 in
theorem k_Mo_belt_41 {p : Program} {l : Launch} {e : Env} {s : State} {m : MethodId} {args : Array Value} {below : List Frame} {meth : Method} {c : Code} {D : va_G} {AC : Nat → ClassId} {e0 mi : Nat} {A : Nat → Prop} {mc ms : Nat} {Q : Int32 → Wd → Prop} (C : Cx p l s m args meth c D AC e0 mi A n_Mo_belt b_Mo_belt 3 (some .int)) (x0 : Nat) (x1 : Int32) (x2 : Int32) (z0 : Option Nat) (z1 : Int32) (w : Wd) (hq : wb_Mo_belt_41 e0 mi Q x0 x1 x2 z0 z1 w) : ∀ (H : Heap) (locs : List Loc) (cells slots : Nat) (ls : Array Slot), HW D cls8 FTc AC A s.heap H locs w → lv_has ls 3 [(0, va_rf (some x0)), (1, .int x1), (2, .int x2)] → cells ≤ mc → slots ≤ ms → W p l e { frames := 1, cells := mc, slots := ms, locals := 22 } s m args below meth c H locs cells slots (vx_MQ below (QQ D AC A (fun v w9 => ∃ r9 : Int32, v = some (.int r9) ∧ Q r9 w9)) (XX D AC A (fun _ _ => False)) args s mc ms A) (F0 m 41 ls [.int z1, va_rf z0]) := by
  obtain ⟨hl0, hx, hb, hr, ht, hown, hlocks, hnm, hml, hex, hK, hA, hZ, hV⟩ := id C
  intro H locs cells slots ls hW hl hc hs
  unfold wb_Mo_belt_41 at hq
  obtain ⟨a1, ea1, hq⟩ := hq
  obtain ⟨t2, hq⟩ := hq
  refine bw_putI hx hb ht in_Mo y_Mo yk_Mo nm_Mo hown hK hW ea1 t2 (by decide) rfl 0 (by decide) rfl (ht _ m_744) (fun _ h => h) (Or.inl rfl) rfl rfl d_Mo_belt_41 (fun H locs hW => ?_)
  refine bw_aload_n hx hb d_Mo_belt_44 rfl (lv_at hl 0 rfl) ?_
  obtain ⟨t3, hq⟩ := hq
  refine bw_getI hx hb ht in_Mo hown hK hW rfl t3 (by decide) rfl 0 (by decide) rfl (ht _ m_744) (fun _ h => h) d_Mo_belt_45 ?_
  refine lv_if_le (tgt := 53) hx hb d_Mo_belt_48 (by decide) (fun c4 => ?_) (fun c4 => ?_)
  · have hq := hq.1 c4
    refine bw_aload_n hx hb d_Mo_belt_53 rfl (lv_at hl 0 rfl) ?_
    refine bw_getR hx hb ht in_Mo hown hK hW rfl t3 (by decide) rfl 4 (by decide) rfl (ht _ m_748) (fun _ h => h) d_Mo_belt_54 ?_
    refine bw_aload_n hx hb d_Mo_belt_57 rfl (lv_at hl 0 rfl) ?_
    refine bw_getI hx hb ht in_Mo hown hK hW rfl t3 (by decide) rfl 3 (by decide) rfl (ht _ m_747) (fun _ h => h) d_Mo_belt_58 ?_
    refine lv_iload_n hx hb d_Mo_belt_61 rfl (lv_at hl 1 rfl) ?_
    obtain ⟨a5, ea5, hq⟩ := hq
    obtain ⟨t6, hq⟩ := hq
    obtain ⟨h7, hq⟩ := hq
    refine bw_iast C hW ea5 t6 h7 d_Mo_belt_62 (fun H locs hW => ?_)
    refine bw_aload_n hx hb d_Mo_belt_63 rfl (lv_at hl 0 rfl) ?_
    refine bw_getR hx hb ht in_Mo hown hK hW rfl t3 (by decide) rfl 5 (by decide) rfl (ht _ m_749) (fun _ h => h) d_Mo_belt_64 ?_
    refine bw_aload_n hx hb d_Mo_belt_67 rfl (lv_at hl 0 rfl) ?_
    refine bw_getI hx hb ht in_Mo hown hK hW rfl t3 (by decide) rfl 3 (by decide) rfl (ht _ m_747) (fun _ h => h) d_Mo_belt_68 ?_
    refine lv_iload_n hx hb d_Mo_belt_71 rfl (lv_at hl 2 rfl) ?_
    obtain ⟨a8, ea8, hq⟩ := hq
    obtain ⟨t9, hq⟩ := hq
    obtain ⟨h10, hq⟩ := hq
    refine bw_iast C hW ea8 t9 h10 d_Mo_belt_72 (fun H locs hW => ?_)
    refine bw_aload_n hx hb d_Mo_belt_73 rfl (lv_at hl 0 rfl) ?_
    refine bw_getR hx hb ht in_Mo hown hK hW rfl t3 (by decide) rfl 6 (by decide) rfl (ht _ m_750) (fun _ h => h) d_Mo_belt_74 ?_
    refine bw_aload_n hx hb d_Mo_belt_77 rfl (lv_at hl 0 rfl) ?_
    refine bw_getI hx hb ht in_Mo hown hK hW rfl t3 (by decide) rfl 3 (by decide) rfl (ht _ m_747) (fun _ h => h) d_Mo_belt_78 ?_
    refine lv_iconst (v := 1) hx hb d_Mo_belt_81 (by decide) ?_
    obtain ⟨a11, ea11, hq⟩ := hq
    obtain ⟨t12, hq⟩ := hq
    obtain ⟨h13, hq⟩ := hq
    refine bw_zast C hW ea11 t12 h13 d_Mo_belt_82 (fun H locs hW => ?_)
    refine bw_aload_n hx hb d_Mo_belt_83 rfl (lv_at hl 0 rfl) ?_
    refine bw_getR hx hb ht in_Mo hown hK hW rfl t3 (by decide) rfl 7 (by decide) rfl (ht _ m_751) (fun _ h => h) d_Mo_belt_84 ?_
    refine lv_iconst (v := 2) hx hb d_Mo_belt_87 (by decide) ?_
    refine bw_aload_n hx hb d_Mo_belt_88 rfl (lv_at hl 0 rfl) ?_
    refine bw_getI hx hb ht in_Mo hown hK hW rfl t3 (by decide) rfl 3 (by decide) rfl (ht _ m_747) (fun _ h => h) d_Mo_belt_89 ?_
    refine lv_imul hx hb d_Mo_belt_92 ?_
    refine lv_iconst (v := (-1)) hx hb d_Mo_belt_93 (by decide) ?_
    obtain ⟨a14, ea14, hq⟩ := hq
    obtain ⟨t15, hq⟩ := hq
    obtain ⟨h16, hq⟩ := hq
    refine bw_iast C hW ea14 t15 h16 d_Mo_belt_94 (fun H locs hW => ?_)
    refine bw_aload_n hx hb d_Mo_belt_95 rfl (lv_at hl 0 rfl) ?_
    refine bw_getR hx hb ht in_Mo hown hK hW rfl t3 (by decide) rfl 7 (by decide) rfl (ht _ m_751) (fun _ h => h) d_Mo_belt_96 ?_
    refine lv_iconst (v := 2) hx hb d_Mo_belt_99 (by decide) ?_
    refine bw_aload_n hx hb d_Mo_belt_100 rfl (lv_at hl 0 rfl) ?_
    refine bw_getI hx hb ht in_Mo hown hK hW rfl t3 (by decide) rfl 3 (by decide) rfl (ht _ m_747) (fun _ h => h) d_Mo_belt_101 ?_
    refine lv_imul hx hb d_Mo_belt_104 ?_
    refine lv_iconst (v := 1) hx hb d_Mo_belt_105 (by decide) ?_
    refine lv_iadd hx hb d_Mo_belt_106 ?_
    refine lv_iconst (v := (-1)) hx hb d_Mo_belt_107 (by decide) ?_
    obtain ⟨a17, ea17, hq⟩ := hq
    obtain ⟨t18, hq⟩ := hq
    obtain ⟨h19, hq⟩ := hq
    refine bw_iast C hW ea17 t18 h19 d_Mo_belt_108 (fun H locs hW => ?_)
    refine bw_aload_n hx hb d_Mo_belt_109 rfl (lv_at hl 0 rfl) ?_
    refine lv_dup hx hb d_Mo_belt_110 (bw_cat _) ?_
    refine bw_getI hx hb ht in_Mo hown hK hW rfl t3 (by decide) rfl 3 (by decide) rfl (ht _ m_747) (fun _ h => h) d_Mo_belt_111 ?_
    refine lv_iconst (v := 1) hx hb d_Mo_belt_114 (by decide) ?_
    refine lv_iadd hx hb d_Mo_belt_115 ?_
    refine bw_putI hx hb ht in_Mo y_Mo yk_Mo nm_Mo hown hK hW rfl t3 (by decide) rfl 3 (by decide) rfl (ht _ m_747) (fun _ h => h) (Or.inl rfl) rfl rfl d_Mo_belt_116 (fun H locs hW => ?_)
    refine bw_aload_n hx hb d_Mo_belt_119 rfl (lv_at hl 0 rfl) ?_
    refine bw_getI hx hb ht in_Mo hown hK hW rfl t3 (by decide) rfl 3 (by decide) rfl (ht _ m_747) (fun _ h => h) d_Mo_belt_120 ?_
    refine lv_iconst (v := 1) hx hb d_Mo_belt_123 (by decide) ?_
    refine lv_isub hx hb d_Mo_belt_124 ?_
    exact bw_iret C hW ⟨_, rfl, hq⟩ d_Mo_belt_125 hc hs
  · have hq := hq.2 c4
    refine lv_iconst (v := 0) hx hb d_Mo_belt_51 (by decide) ?_
    exact bw_iret C hW ⟨_, rfl, hq⟩ d_Mo_belt_52 hc hs
def wb_Mo_belt_23 (e0 mi : Nat) (Q : Int32 → Wd → Prop) (x0 : Nat) (x1 : Int32) (x2 : Int32) (z0 : Option Nat) (w : Wd) : Prop :=
  wb_Mo_belt_41 e0 mi Q x0 x1 x2 z0 (1 : Int32) w
set_option maxHeartbeats 4000000 in
set_option maxRecDepth 100000 in
theorem k_Mo_belt_23 {p : Program} {l : Launch} {e : Env} {s : State} {m : MethodId} {args : Array Value} {below : List Frame} {meth : Method} {c : Code} {D : va_G} {AC : Nat → ClassId} {e0 mi : Nat} {A : Nat → Prop} {mc ms : Nat} {Q : Int32 → Wd → Prop} (C : Cx p l s m args meth c D AC e0 mi A n_Mo_belt b_Mo_belt 3 (some .int)) (x0 : Nat) (x1 : Int32) (x2 : Int32) (z0 : Option Nat) (w : Wd) (hq : wb_Mo_belt_23 e0 mi Q x0 x1 x2 z0 w) : ∀ (H : Heap) (locs : List Loc) (cells slots : Nat) (ls : Array Slot), HW D cls8 FTc AC A s.heap H locs w → lv_has ls 3 [(0, va_rf (some x0)), (1, .int x1), (2, .int x2)] → cells ≤ mc → slots ≤ ms → W p l e { frames := 1, cells := mc, slots := ms, locals := 22 } s m args below meth c H locs cells slots (vx_MQ below (QQ D AC A (fun v w9 => ∃ r9 : Int32, v = some (.int r9) ∧ Q r9 w9)) (XX D AC A (fun _ _ => False)) args s mc ms A) (F0 m 23 ls [va_rf z0]) := by
  obtain ⟨hl0, hx, hb, hr, ht, hown, hlocks, hnm, hml, hex, hK, hA, hZ, hV⟩ := id C
  intro H locs cells slots ls hW hl hc hs
  unfold wb_Mo_belt_23 at hq
  refine lv_iconst (v := 1) hx hb d_Mo_belt_23 (by decide) ?_
  refine lv_goto (tgt := 41) hx hb d_Mo_belt_24 (by decide) ?_
  exact k_Mo_belt_41 C  _ _ _ _ _ _ hq _ _ _ _ _ hW (lv_sub hl [0, 1, 2] rfl) hc hs
def wp_Mo_belt (e0 mi : Nat) (x0 : Nat) (x1 : Int32) (x2 : Int32) (w : Wd) (Q : Int32 → Wd → Prop) : Prop :=
  wp_Mo_in e0 mi x1 (1 : Int32) (10000 : Int32) w (fun i7 w2 => (i7 = 0 → (wb_Mo_belt_23 e0 mi Q x0 x1 x2 (some x0) w2)) ∧ (¬ i7 = 0 → (wp_Mo_in e0 mi x2 (0 : Int32) (1000 : Int32) w2 (fun i15 w10 => (¬ i15 = 0 → (bw_is w10 x0 6 ∧ ((¬ (wI w10 x0 3) = (8 : Int32) → (wb_Mo_belt_41 e0 mi Q x0 x1 x2 (some x0) (0 : Int32) w10)) ∧ ((wI w10 x0 3) = (8 : Int32) → (wb_Mo_belt_41 e0 mi Q x0 x1 x2 (some x0) (2 : Int32) w10))))) ∧ (i15 = 0 → (wb_Mo_belt_23 e0 mi Q x0 x1 x2 (some x0) w10))))))
set_option maxHeartbeats 4000000 in
set_option maxRecDepth 100000 in
theorem k_Mo_belt_0 {p : Program} {l : Launch} {e : Env} {s : State} {m : MethodId} {args : Array Value} {below : List Frame} {meth : Method} {c : Code} {D : va_G} {AC : Nat → ClassId} {e0 mi : Nat} {A : Nat → Prop} {mc ms : Nat} {Q : Int32 → Wd → Prop} (C : Cx p l s m args meth c D AC e0 mi A n_Mo_belt b_Mo_belt 3 (some .int)) (x0 : Nat) (x1 : Int32) (x2 : Int32) (w : Wd) (hq : wp_Mo_belt e0 mi x0 x1 x2 w Q) : ∀ (H : Heap) (locs : List Loc) (cells slots : Nat) (ls : Array Slot), HW D cls8 FTc AC A s.heap H locs w → lv_has ls 3 [(0, va_rf (some x0)), (1, .int x1), (2, .int x2)] → cells ≤ mc → slots ≤ ms → W p l e { frames := 1, cells := mc, slots := ms, locals := 22 } s m args below meth c H locs cells slots (vx_MQ below (QQ D AC A (fun v w9 => ∃ r9 : Int32, v = some (.int r9) ∧ Q r9 w9)) (XX D AC A (fun _ _ => False)) args s mc ms A) (F0 m 0 ls []) := by
  obtain ⟨hl0, hx, hb, hr, ht, hown, hlocks, hnm, hml, hex, hK, hA, hZ, hV⟩ := id C
  intro H locs cells slots ls hW hl hc hs
  unfold wp_Mo_belt at hq
  refine bw_aload_n hx hb d_Mo_belt_0 rfl (lv_at hl 0 rfl) ?_
  refine lv_iload_n hx hb d_Mo_belt_1 rfl (lv_at hl 1 rfl) ?_
  refine lv_iconst (v := 1) hx hb d_Mo_belt_2 (by decide) ?_
  refine lv_sipush (v := 10000) hx hb d_Mo_belt_3 (by decide) ?_
  refine bw_callS (As := [.int x1, .int (1 : Int32), .int (10000 : Int32)]) (rest := [va_rf (some x0)]) C hW ci_Mo_in m_848 m_849 d_Mo_belt_6 rfl rfl hl.1 (by simp [bw_cat, cat_i, cat_j]) ⟨Nat.le_of_ble_eq_true rfl, Nat.le_of_ble_eq_true rfl⟩ ⟨hc, hs⟩ (c_Mo_in hl0 _ _ _ _ hq) (fun _ _ _ _ _ _ h => h.elim) (fun v1 w2 H locs hv hW => ?_)
  obtain ⟨i7, rfl, hq⟩ := hv
  refine W.eq (g2 := F0 m 9 ls [.int i7, va_rf (some x0)]) rfl ?_
  refine lv_if_eq (tgt := 23) hx hb d_Mo_belt_9 (by decide) (fun c8 => ?_) (fun c8 => ?_)
  · have hq := hq.1 c8
    exact k_Mo_belt_23 C  _ _ _ _ _ hq _ _ _ _ _ hW (lv_sub hl [0, 1, 2] rfl) hc hs
  · have hq := hq.2 c8
    refine lv_iload_n hx hb d_Mo_belt_12 rfl (lv_at hl 2 rfl) ?_
    refine lv_iconst (v := 0) hx hb d_Mo_belt_13 (by decide) ?_
    refine lv_sipush (v := 1000) hx hb d_Mo_belt_14 (by decide) ?_
    refine bw_callS (As := [.int x2, .int (0 : Int32), .int (1000 : Int32)]) (rest := [va_rf (some x0)]) C hW ci_Mo_in m_848 m_849 d_Mo_belt_17 rfl rfl hl.1 (by simp [bw_cat, cat_i, cat_j]) ⟨Nat.le_of_ble_eq_true rfl, Nat.le_of_ble_eq_true rfl⟩ ⟨hc, hs⟩ (c_Mo_in hl0 _ _ _ _ hq) (fun _ _ _ _ _ _ h => h.elim) (fun v9 w10 H locs hv hW => ?_)
    obtain ⟨i15, rfl, hq⟩ := hv
    refine W.eq (g2 := F0 m 20 ls [.int i15, va_rf (some x0)]) rfl ?_
    refine lv_if_ne (tgt := 27) hx hb d_Mo_belt_20 (by decide) (fun c16 => ?_) (fun c16 => ?_)
    · have hq := hq.1 c16
      refine bw_aload_n hx hb d_Mo_belt_27 rfl (lv_at hl 0 rfl) ?_
      obtain ⟨t17, hq⟩ := hq
      refine bw_getI hx hb ht in_Mo hown hK hW rfl t17 (by decide) rfl 3 (by decide) rfl (ht _ m_747) (fun _ h => h) d_Mo_belt_28 ?_
      refine lv_bipush (v := 8) hx hb d_Mo_belt_31 (by decide) ?_
      refine lv_icmp_ne (tgt := 40) hx hb d_Mo_belt_33 (by decide) (fun c18 => ?_) (fun c18 => ?_)
      · have hq := hq.1 c18
        refine lv_iconst (v := 0) hx hb d_Mo_belt_40 (by decide) ?_
        exact k_Mo_belt_41 C  _ _ _ _ _ _ hq _ _ _ _ _ hW (lv_sub hl [0, 1, 2] rfl) hc hs
      · have hq := hq.2 c18
        refine lv_iconst (v := 2) hx hb d_Mo_belt_36 (by decide) ?_
        refine lv_goto (tgt := 41) hx hb d_Mo_belt_37 (by decide) ?_
        exact k_Mo_belt_41 C  _ _ _ _ _ _ hq _ _ _ _ _ hW (lv_sub hl [0, 1, 2] rfl) hc hs
    · have hq := hq.2 c16
      exact k_Mo_belt_23 C  _ _ _ _ _ hq _ _ _ _ _ hW (lv_sub hl [0, 1, 2] rfl) hc hs
theorem ci_Mo_belt : CI n_Mo_belt b_Mo_belt 3 (some .int) 2 := ⟨m_847, m_5, by decide, by decide, by decide +kernel⟩
theorem c_Mo_belt {l : Launch} {D : va_G} {AC : Nat → ClassId} {e0 mi : Nat} {Q : Int32 → Wd → Prop} (hl0 : l.stackTraces = false) (x0 : Nat) (x1 : Int32) (x2 : Int32) (w : Wd) (hq : wp_Mo_belt e0 mi x0 x1 x2 w Q) : Ct l D AC e0 mi n_Mo_belt (wy n_Mo_belt b_Mo_belt 3 (some .int)) 1 22 [va_rf (some x0), .int x1, .int x2] w 0 0 (fun v w9 => ∃ r9 : Int32, v = some (.int r9) ∧ Q r9 w9) (fun _ _ => False) :=
  Ct.of hl0 (by decide) (by simp [lg_sl, bw_cat, cat_i, cat_j]) (fun p e s m args below meth c A ls C hW hl => k_Mo_belt_0 C x0 x1 x2 w hq s.heap [] 0 0 ls hW (by simpa [lv_args, bw_cat, cat_i, cat_j] using hl) (Nat.le_refl _) (Nat.le_refl _))
def wp_Mo_isBelt (e0 mi : Nat) (x0 : Nat) (x1 : Int32) (w : Wd) (Q : Int32 → Wd → Prop) : Prop :=
  bw_is w x0 6 ∧ (wp_Mo_in e0 mi x1 (0 : Int32) ((wI w x0 3) - (1 : Int32)) w (fun i8 w3 => bw_b i8 ∧ Q i8 w3))
set_option maxHeartbeats 4000000 in
set_option maxRecDepth 100000 in
theorem k_Mo_isBelt_0 {p : Program} {l : Launch} {e : Env} {s : State} {m : MethodId} {args : Array Value} {below : List Frame} {meth : Method} {c : Code} {D : va_G} {AC : Nat → ClassId} {e0 mi : Nat} {A : Nat → Prop} {mc ms : Nat} {Q : Int32 → Wd → Prop} (C : Cx p l s m args meth c D AC e0 mi A n_Mo_isBelt b_Mo_isBelt 2 (some .boolean)) (x0 : Nat) (x1 : Int32) (w : Wd) (hq : wp_Mo_isBelt e0 mi x0 x1 w Q) : ∀ (H : Heap) (locs : List Loc) (cells slots : Nat) (ls : Array Slot), HW D cls8 FTc AC A s.heap H locs w → lv_has ls 2 [(0, va_rf (some x0)), (1, .int x1)] → cells ≤ mc → slots ≤ ms → W p l e { frames := 1, cells := mc, slots := ms, locals := 22 } s m args below meth c H locs cells slots (vx_MQ below (QQ D AC A (fun v w9 => ∃ r9 : Int32, v = some (.int r9) ∧ Q r9 w9)) (XX D AC A (fun _ _ => False)) args s mc ms A) (F0 m 0 ls []) := by
  obtain ⟨hl0, hx, hb, hr, ht, hown, hlocks, hnm, hml, hex, hK, hA, hZ, hV⟩ := id C
  intro H locs cells slots ls hW hl hc hs
  unfold wp_Mo_isBelt at hq
  refine lv_iload_n hx hb d_Mo_isBelt_0 rfl (lv_at hl 1 rfl) ?_
  refine lv_iconst (v := 0) hx hb d_Mo_isBelt_1 (by decide) ?_
  refine bw_aload_n hx hb d_Mo_isBelt_2 rfl (lv_at hl 0 rfl) ?_
  obtain ⟨t1, hq⟩ := hq
  refine bw_getI hx hb ht in_Mo hown hK hW rfl t1 (by decide) rfl 3 (by decide) rfl (ht _ m_747) (fun _ h => h) d_Mo_isBelt_3 ?_
  refine lv_iconst (v := 1) hx hb d_Mo_isBelt_6 (by decide) ?_
  refine lv_isub hx hb d_Mo_isBelt_7 ?_
  refine bw_callS (As := [.int x1, .int (0 : Int32), .int ((wI w x0 3) - (1 : Int32))]) (rest := []) C hW ci_Mo_in m_848 m_849 d_Mo_isBelt_8 rfl rfl hl.1 (by decide) ⟨Nat.le_of_ble_eq_true rfl, Nat.le_of_ble_eq_true rfl⟩ ⟨hc, hs⟩ (c_Mo_in hl0 _ _ _ _ hq) (fun _ _ _ _ _ _ h => h.elim) (fun v2 w3 H locs hv hW => ?_)
  obtain ⟨i8, rfl, hq⟩ := hv
  refine W.eq (g2 := F0 m 11 ls [.int i8]) rfl ?_
  obtain ⟨h9, hq⟩ := hq
  exact bw_zret C hW (bw_bn h9) ⟨_, rfl, hq⟩ d_Mo_isBelt_11 hc hs
theorem ci_Mo_isBelt : CI n_Mo_isBelt b_Mo_isBelt 2 (some .boolean) 1 := ⟨m_858, m_5, by decide, by decide, by decide +kernel⟩
theorem sel_Mo_isBelt : Cond.selects "BeltRowsModel" n_Mo_isBelt n_Mo_isBelt ∈ TBL := List.mem_filter.mpr ⟨List.mem_append_left _ (List.mem_map.mpr ⟨(n_Mo_isBelt, 32), by decide +kernel, rfl⟩), rfl⟩
theorem c_Mo_isBelt {l : Launch} {D : va_G} {AC : Nat → ClassId} {e0 mi : Nat} {Q : Int32 → Wd → Prop} (hl0 : l.stackTraces = false) (x0 : Nat) (x1 : Int32) (w : Wd) (hq : wp_Mo_isBelt e0 mi x0 x1 w Q) : Ct l D AC e0 mi n_Mo_isBelt (wy n_Mo_isBelt b_Mo_isBelt 2 (some .boolean)) 1 22 [va_rf (some x0), .int x1] w 0 0 (fun v w9 => ∃ r9 : Int32, v = some (.int r9) ∧ Q r9 w9) (fun _ _ => False) :=
  Ct.of hl0 (by decide) (by simp [lg_sl, bw_cat, cat_i, cat_j]) (fun p e s m args below meth c A ls C hW hl => k_Mo_isBelt_0 C x0 x1 w hq s.heap [] 0 0 ls hW (by simpa [lv_args, bw_cat, cat_i, cat_j] using hl) (Nat.le_refl _) (Nat.le_refl _))
def wb_Mo_join_132 (e0 mi : Nat) (K103 : Nat → Int32 → Int32 → Int32 → Int32 → Int32 → Int32 → Wd → Prop) (Q : Int32 → Wd → Prop) (x0 : Nat) (x1 : Int32) (x2 : Int32) (x3 : Int32) (x4 : Int32) (x5 : Int32) (x6 : Int32) (z0 : Int32) (z1 : Int32) (w : Wd) : Prop :=
  ∀ i1 : Int32, i1 = z0 + z1 → (∀ i2 : Int32, i2 = x6 + 1 → (K103 x0 x1 x2 x3 x4 i1 i2 w))
set_option maxHeartbeats 4000000 in
set_option maxRecDepth 100000 in
theorem k_Mo_join_132 {p : Program} {l : Launch} {e : Env} {s : State} {m : MethodId} {args : Array Value} {below : List Frame} {meth : Method} {c : Code} {D : va_G} {AC : Nat → ClassId} {e0 mi : Nat} {A : Nat → Prop} {mc ms : Nat} {K103 : Nat → Int32 → Int32 → Int32 → Int32 → Int32 → Int32 → Wd → Prop} {Q : Int32 → Wd → Prop} (C : Cx p l s m args meth c D AC e0 mi A n_Mo_join b_Mo_join 7 (some .int)) (hK103 : ∀ (x0 : Nat) (x1 : Int32) (x2 : Int32) (x3 : Int32) (x4 : Int32) (x5 : Int32) (x6 : Int32) (w : Wd), K103 x0 x1 x2 x3 x4 x5 x6 w → ∀ (H : Heap) (locs : List Loc) (cells slots : Nat) (ls : Array Slot), HW D cls8 FTc AC A s.heap H locs w → lv_has ls 7 [(0, va_rf (some x0)), (1, .int x1), (2, .int x2), (3, .int x3), (4, .int x4), (5, .int x5), (6, .int x6)] → cells ≤ mc → slots ≤ ms → W p l e { frames := 2, cells := mc, slots := ms, locals := 43 } s m args below meth c H locs cells slots (vx_MQ below (QQ D AC A (fun v w9 => ∃ r9 : Int32, v = some (.int r9) ∧ Q r9 w9)) (XX D AC A (fun _ _ => False)) args s mc ms A) (F0 m 103 ls [])) (x0 : Nat) (x1 : Int32) (x2 : Int32) (x3 : Int32) (x4 : Int32) (x5 : Int32) (x6 : Int32) (z0 : Int32) (z1 : Int32) (w : Wd) (hq : wb_Mo_join_132 e0 mi K103 Q x0 x1 x2 x3 x4 x5 x6 z0 z1 w) : ∀ (H : Heap) (locs : List Loc) (cells slots : Nat) (ls : Array Slot), HW D cls8 FTc AC A s.heap H locs w → lv_has ls 7 [(0, va_rf (some x0)), (1, .int x1), (2, .int x2), (3, .int x3), (4, .int x4), (5, .int x5), (6, .int x6)] → cells ≤ mc → slots ≤ ms → W p l e { frames := 2, cells := mc, slots := ms, locals := 43 } s m args below meth c H locs cells slots (vx_MQ below (QQ D AC A (fun v w9 => ∃ r9 : Int32, v = some (.int r9) ∧ Q r9 w9)) (XX D AC A (fun _ _ => False)) args s mc ms A) (F0 m 132 ls [.int z1, .int z0]) := by
  obtain ⟨hl0, hx, hb, hr, ht, hown, hlocks, hnm, hml, hex, hK, hA, hZ, hV⟩ := id C
  intro H locs cells slots ls hW hl hc hs
  unfold wb_Mo_join_132 at hq
  refine lv_iadd hx hb d_Mo_join_132 ?_
  refine lv_topi (fun i1 ei1 => ?_)
  have hq := hq i1 ei1
  refine lv_istore (lv' := [(5, .int i1), (0, va_rf (some x0)), (1, .int x1), (2, .int x2), (3, .int x3), (4, .int x4), (6, .int x6)]) hx hb d_Mo_join_133 hl (by decide) (by simp [bw_cat, cat_i, cat_j]) (fun ls hl => ?_)
  obtain ⟨i2, ei2⟩ : ∃ y : Int32, y = x6 + 1 := ⟨_, rfl⟩
  have hq := hq i2 ei2
  refine lv_iinc (v := i2) (lv' := [(6, .int i2), (5, .int i1), (0, va_rf (some x0)), (1, .int x1), (2, .int x2), (3, .int x3), (4, .int x4)]) hx hb d_Mo_join_135 hl (k := 6) rfl (by rw [ei2]; rfl) (by decide) (by simp [bw_cat, cat_i, cat_j]) (fun ls hl => ?_)
  refine lv_goto (tgt := 103) hx hb d_Mo_join_138 (by decide) ?_
  exact hK103 _ _ _ _ _ _ _ _ hq _ _ _ _ _ hW (lv_sub hl [2, 3, 4, 5, 6, 1, 0] rfl) hc hs
def wb_Mo_join_103 (e0 mi : Nat) (Q : Int32 → Wd → Prop) : Nat → Nat → Int32 → Int32 → Int32 → Int32 → Int32 → Int32 → Wd → Prop
  | 0, _, _, _, _, _, _, _, _ => False
  | n + 1, x0, x1, x2, x3, x4, x5, x6, w => bw_is w x0 6 ∧ ((((2 : Int32) * (wI w x0 3)) ≤ x6 → (Q x5 w)) ∧ (¬ ((2 : Int32) * (wI w x0 3)) ≤ x6 → (∃ a3 : Nat, (wR w x0 7) = some a3 ∧ (bw_is w a3 101 ∧ (vp_in x6 (wN w a3) ∧ ((¬ (wI w a3 x6.toNatClampNeg) = x3 → (wb_Mo_join_132 e0 mi (wb_Mo_join_103 e0 mi Q n) Q x0 x1 x2 x3 x4 x5 x6 x5 (0 : Int32) w)) ∧ ((wI w a3 x6.toNatClampNeg) = x3 → (wb_Mo_join_132 e0 mi (wb_Mo_join_103 e0 mi Q n) Q x0 x1 x2 x3 x4 x5 x6 x5 (1 : Int32) w))))))))
set_option maxHeartbeats 4000000 in
set_option maxRecDepth 100000 in
theorem k_Mo_join_103 {p : Program} {l : Launch} {e : Env} {s : State} {m : MethodId} {args : Array Value} {below : List Frame} {meth : Method} {c : Code} {D : va_G} {AC : Nat → ClassId} {e0 mi : Nat} {A : Nat → Prop} {mc ms : Nat} {Q : Int32 → Wd → Prop} (C : Cx p l s m args meth c D AC e0 mi A n_Mo_join b_Mo_join 7 (some .int)) : ∀ (n : Nat) (x0 : Nat) (x1 : Int32) (x2 : Int32) (x3 : Int32) (x4 : Int32) (x5 : Int32) (x6 : Int32) (w : Wd), wb_Mo_join_103 e0 mi Q n x0 x1 x2 x3 x4 x5 x6 w → ∀ (H : Heap) (locs : List Loc) (cells slots : Nat) (ls : Array Slot), HW D cls8 FTc AC A s.heap H locs w → lv_has ls 7 [(0, va_rf (some x0)), (1, .int x1), (2, .int x2), (3, .int x3), (4, .int x4), (5, .int x5), (6, .int x6)] → cells ≤ mc → slots ≤ ms → W p l e { frames := 2, cells := mc, slots := ms, locals := 43 } s m args below meth c H locs cells slots (vx_MQ below (QQ D AC A (fun v w9 => ∃ r9 : Int32, v = some (.int r9) ∧ Q r9 w9)) (XX D AC A (fun _ _ => False)) args s mc ms A) (F0 m 103 ls []) := by
  obtain ⟨hl0, hx, hb, hr, ht, hown, hlocks, hnm, hml, hex, hK, hA, hZ, hV⟩ := id C
  intro n
  induction n with
  | zero =>
    intro x0 x1 x2 x3 x4 x5 x6 w hq
    exact hq.elim
  | succ n ih =>
    intro x0 x1 x2 x3 x4 x5 x6 w hq H locs cells slots ls hW hl hc hs
    have hK103 := ih
    unfold wb_Mo_join_103 at hq
    refine lv_iload hx hb d_Mo_join_103 (lv_at hl 6 rfl) ?_
    refine lv_iconst (v := 2) hx hb d_Mo_join_105 (by decide) ?_
    refine bw_aload_n hx hb d_Mo_join_106 rfl (lv_at hl 0 rfl) ?_
    obtain ⟨t1, hq⟩ := hq
    refine bw_getI hx hb ht in_Mo hown hK hW rfl t1 (by decide) rfl 3 (by decide) rfl (ht _ m_747) (fun _ h => h) d_Mo_join_107 ?_
    refine lv_imul hx hb d_Mo_join_110 ?_
    refine lv_icmp_ge (tgt := 141) hx hb d_Mo_join_111 (by decide) (fun c2 => ?_) (fun c2 => ?_)
    · have hq := hq.1 c2
      refine lv_iload hx hb d_Mo_join_141 (lv_at hl 5 rfl) ?_
      exact bw_iret C hW ⟨_, rfl, hq⟩ d_Mo_join_143 hc hs
    · have hq := hq.2 c2
      refine lv_iload hx hb d_Mo_join_114 (lv_at hl 5 rfl) ?_
      refine bw_aload_n hx hb d_Mo_join_116 rfl (lv_at hl 0 rfl) ?_
      refine bw_getR hx hb ht in_Mo hown hK hW rfl t1 (by decide) rfl 7 (by decide) rfl (ht _ m_751) (fun _ h => h) d_Mo_join_117 ?_
      refine lv_iload hx hb d_Mo_join_120 (lv_at hl 6 rfl) ?_
      obtain ⟨a3, ea3, hq⟩ := hq
      obtain ⟨t4, hq⟩ := hq
      obtain ⟨h5, hq⟩ := hq
      refine bw_iald C hW ea3 t4 h5 d_Mo_join_122 ?_
      refine lv_iload_n hx hb d_Mo_join_123 rfl (lv_at hl 3 rfl) ?_
      refine lv_icmp_ne (tgt := 131) hx hb d_Mo_join_124 (by decide) (fun c6 => ?_) (fun c6 => ?_)
      · have hq := hq.1 c6
        refine lv_iconst (v := 0) hx hb d_Mo_join_131 (by decide) ?_
        exact k_Mo_join_132 C hK103 _ _ _ _ _ _ _ _ _ _ hq _ _ _ _ _ hW (lv_sub hl [0, 1, 2, 3, 4, 5, 6] rfl) hc hs
      · have hq := hq.2 c6
        refine lv_iconst (v := 1) hx hb d_Mo_join_127 (by decide) ?_
        refine lv_goto (tgt := 132) hx hb d_Mo_join_128 (by decide) ?_
        exact k_Mo_join_132 C hK103 _ _ _ _ _ _ _ _ _ _ hq _ _ _ _ _ hW (lv_sub hl [0, 1, 2, 3, 4, 5, 6] rfl) hc hs
def wb_Mo_join_51 (e0 mi : Nat) (Q : Int32 → Wd → Prop) (x0 : Nat) (x1 : Int32) (x2 : Int32) (x3 : Int32) (x4 : Int32) (z0 : Option Nat) (z1 : Int32) (w : Wd) : Prop :=
  ∃ a1 : Nat, z0 = some a1 ∧ (bw_is w a1 6 ∧ (bw_is (sI w a1 0 z1) x0 6 ∧ (((wI (sI w a1 0 z1) x0 0) ≤ 0 → (∃ a5 : Nat, (wR (sI w a1 0 z1) x0 7) = some a5 ∧ (bw_is (sI w a1 0 z1) a5 101 ∧ (vp_in (((2 : Int32) * x1) + x2) (wN (sI w a1 0 z1) a5) ∧ (∃ a8 : Nat, (wR (sI (sI w a1 0 z1) a5 (((2 : Int32) * x1) + x2).toNatClampNeg x3) x0 8) = some a8 ∧ (bw_is (sI (sI w a1 0 z1) a5 (((2 : Int32) * x1) + x2).toNatClampNeg x3) a8 101 ∧ (vp_in (((2 : Int32) * x1) + x2) (wN (sI (sI w a1 0 z1) a5 (((2 : Int32) * x1) + x2).toNatClampNeg x3) a8) ∧ (∃ a11 : Nat, (wR (sI (sI (sI w a1 0 z1) a5 (((2 : Int32) * x1) + x2).toNatClampNeg x3) a8 (((2 : Int32) * x1) + x2).toNatClampNeg x4) x0 9) = some a11 ∧ (bw_is (sI (sI (sI w a1 0 z1) a5 (((2 : Int32) * x1) + x2).toNatClampNeg x3) a8 (((2 : Int32) * x1) + x2).toNatClampNeg x4) a11 101 ∧ (vp_in (((2 : Int32) * x1) + x2) (wN (sI (sI (sI w a1 0 z1) a5 (((2 : Int32) * x1) + x2).toNatClampNeg x3) a8 (((2 : Int32) * x1) + x2).toNatClampNeg x4) a11) ∧ (∃ n14 : Nat, wb_Mo_join_103 e0 mi Q n14 x0 x1 x2 x3 x4 (0 : Int32) (0 : Int32) (sI (sI (sI (sI w a1 0 z1) a5 (((2 : Int32) * x1) + x2).toNatClampNeg x3) a8 (((2 : Int32) * x1) + x2).toNatClampNeg x4) a11 (((2 : Int32) * x1) + x2).toNatClampNeg (0 : Int32))))))))))))) ∧ (¬ (wI (sI w a1 0 z1) x0 0) ≤ 0 → (Q (0 : Int32) (sI w a1 0 z1))))))
set_option maxHeartbeats 4000000 in
set_option maxRecDepth 100000 in
theorem k_Mo_join_51 {p : Program} {l : Launch} {e : Env} {s : State} {m : MethodId} {args : Array Value} {below : List Frame} {meth : Method} {c : Code} {D : va_G} {AC : Nat → ClassId} {e0 mi : Nat} {A : Nat → Prop} {mc ms : Nat} {Q : Int32 → Wd → Prop} (C : Cx p l s m args meth c D AC e0 mi A n_Mo_join b_Mo_join 7 (some .int)) (x0 : Nat) (x1 : Int32) (x2 : Int32) (x3 : Int32) (x4 : Int32) (z0 : Option Nat) (z1 : Int32) (w : Wd) (hq : wb_Mo_join_51 e0 mi Q x0 x1 x2 x3 x4 z0 z1 w) : ∀ (H : Heap) (locs : List Loc) (cells slots : Nat) (ls : Array Slot), HW D cls8 FTc AC A s.heap H locs w → lv_has ls 7 [(0, va_rf (some x0)), (1, .int x1), (2, .int x2), (3, .int x3), (4, .int x4)] → cells ≤ mc → slots ≤ ms → W p l e { frames := 2, cells := mc, slots := ms, locals := 43 } s m args below meth c H locs cells slots (vx_MQ below (QQ D AC A (fun v w9 => ∃ r9 : Int32, v = some (.int r9) ∧ Q r9 w9)) (XX D AC A (fun _ _ => False)) args s mc ms A) (F0 m 51 ls [.int z1, va_rf z0]) := by
  obtain ⟨hl0, hx, hb, hr, ht, hown, hlocks, hnm, hml, hex, hK, hA, hZ, hV⟩ := id C
  intro H locs cells slots ls hW hl hc hs
  unfold wb_Mo_join_51 at hq
  obtain ⟨a1, ea1, hq⟩ := hq
  obtain ⟨t2, hq⟩ := hq
  refine bw_putI hx hb ht in_Mo y_Mo yk_Mo nm_Mo hown hK hW ea1 t2 (by decide) rfl 0 (by decide) rfl (ht _ m_744) (fun _ h => h) (Or.inl rfl) rfl rfl d_Mo_join_51 (fun H locs hW => ?_)
  refine bw_aload_n hx hb d_Mo_join_54 rfl (lv_at hl 0 rfl) ?_
  obtain ⟨t3, hq⟩ := hq
  refine bw_getI hx hb ht in_Mo hown hK hW rfl t3 (by decide) rfl 0 (by decide) rfl (ht _ m_744) (fun _ h => h) d_Mo_join_55 ?_
  refine lv_if_le (tgt := 63) hx hb d_Mo_join_58 (by decide) (fun c4 => ?_) (fun c4 => ?_)
  · have hq := hq.1 c4
    refine bw_aload_n hx hb d_Mo_join_63 rfl (lv_at hl 0 rfl) ?_
    refine bw_getR hx hb ht in_Mo hown hK hW rfl t3 (by decide) rfl 7 (by decide) rfl (ht _ m_751) (fun _ h => h) d_Mo_join_64 ?_
    refine lv_iconst (v := 2) hx hb d_Mo_join_67 (by decide) ?_
    refine lv_iload_n hx hb d_Mo_join_68 rfl (lv_at hl 1 rfl) ?_
    refine lv_imul hx hb d_Mo_join_69 ?_
    refine lv_iload_n hx hb d_Mo_join_70 rfl (lv_at hl 2 rfl) ?_
    refine lv_iadd hx hb d_Mo_join_71 ?_
    refine lv_iload_n hx hb d_Mo_join_72 rfl (lv_at hl 3 rfl) ?_
    obtain ⟨a5, ea5, hq⟩ := hq
    obtain ⟨t6, hq⟩ := hq
    obtain ⟨h7, hq⟩ := hq
    refine bw_iast C hW ea5 t6 h7 d_Mo_join_73 (fun H locs hW => ?_)
    refine bw_aload_n hx hb d_Mo_join_74 rfl (lv_at hl 0 rfl) ?_
    refine bw_getR hx hb ht in_Mo hown hK hW rfl t3 (by decide) rfl 8 (by decide) rfl (ht _ m_752) (fun _ h => h) d_Mo_join_75 ?_
    refine lv_iconst (v := 2) hx hb d_Mo_join_78 (by decide) ?_
    refine lv_iload_n hx hb d_Mo_join_79 rfl (lv_at hl 1 rfl) ?_
    refine lv_imul hx hb d_Mo_join_80 ?_
    refine lv_iload_n hx hb d_Mo_join_81 rfl (lv_at hl 2 rfl) ?_
    refine lv_iadd hx hb d_Mo_join_82 ?_
    refine lv_iload hx hb d_Mo_join_83 (lv_at hl 4 rfl) ?_
    obtain ⟨a8, ea8, hq⟩ := hq
    obtain ⟨t9, hq⟩ := hq
    obtain ⟨h10, hq⟩ := hq
    refine bw_iast C hW ea8 t9 h10 d_Mo_join_85 (fun H locs hW => ?_)
    refine bw_aload_n hx hb d_Mo_join_86 rfl (lv_at hl 0 rfl) ?_
    refine bw_getR hx hb ht in_Mo hown hK hW rfl t3 (by decide) rfl 9 (by decide) rfl (ht _ m_753) (fun _ h => h) d_Mo_join_87 ?_
    refine lv_iconst (v := 2) hx hb d_Mo_join_90 (by decide) ?_
    refine lv_iload_n hx hb d_Mo_join_91 rfl (lv_at hl 1 rfl) ?_
    refine lv_imul hx hb d_Mo_join_92 ?_
    refine lv_iload_n hx hb d_Mo_join_93 rfl (lv_at hl 2 rfl) ?_
    refine lv_iadd hx hb d_Mo_join_94 ?_
    refine lv_iconst (v := 0) hx hb d_Mo_join_95 (by decide) ?_
    obtain ⟨a11, ea11, hq⟩ := hq
    obtain ⟨t12, hq⟩ := hq
    obtain ⟨h13, hq⟩ := hq
    refine bw_iast C hW ea11 t12 h13 d_Mo_join_96 (fun H locs hW => ?_)
    refine lv_iconst (v := 0) hx hb d_Mo_join_97 (by decide) ?_
    refine lv_istore (lv' := [(5, .int (0 : Int32)), (0, va_rf (some x0)), (1, .int x1), (2, .int x2), (3, .int x3), (4, .int x4)]) hx hb d_Mo_join_98 hl (by decide) (by simp [bw_cat, cat_i, cat_j]) (fun ls hl => ?_)
    refine lv_iconst (v := 0) hx hb d_Mo_join_100 (by decide) ?_
    refine lv_istore (lv' := [(6, .int (0 : Int32)), (5, .int (0 : Int32)), (0, va_rf (some x0)), (1, .int x1), (2, .int x2), (3, .int x3), (4, .int x4)]) hx hb d_Mo_join_101 hl (by decide) (by simp [bw_cat, cat_i, cat_j]) (fun ls hl => ?_)
    obtain ⟨n14, hq⟩ := hq
    exact k_Mo_join_103 C  n14 _ _ _ _ _ _ _ _ hq _ _ _ _ _ hW (lv_sub hl [2, 3, 4, 5, 6, 1, 0] rfl) hc hs
  · have hq := hq.2 c4
    refine lv_iconst (v := 0) hx hb d_Mo_join_61 (by decide) ?_
    exact bw_iret C hW ⟨_, rfl, hq⟩ d_Mo_join_62 hc hs
def wb_Mo_join_17 (e0 mi : Nat) (Q : Int32 → Wd → Prop) (x0 : Nat) (x1 : Int32) (x2 : Int32) (x3 : Int32) (x4 : Int32) (z0 : Option Nat) (w : Wd) : Prop :=
  wb_Mo_join_51 e0 mi Q x0 x1 x2 x3 x4 z0 (1 : Int32) w
set_option maxHeartbeats 4000000 in
set_option maxRecDepth 100000 in
theorem k_Mo_join_17 {p : Program} {l : Launch} {e : Env} {s : State} {m : MethodId} {args : Array Value} {below : List Frame} {meth : Method} {c : Code} {D : va_G} {AC : Nat → ClassId} {e0 mi : Nat} {A : Nat → Prop} {mc ms : Nat} {Q : Int32 → Wd → Prop} (C : Cx p l s m args meth c D AC e0 mi A n_Mo_join b_Mo_join 7 (some .int)) (x0 : Nat) (x1 : Int32) (x2 : Int32) (x3 : Int32) (x4 : Int32) (z0 : Option Nat) (w : Wd) (hq : wb_Mo_join_17 e0 mi Q x0 x1 x2 x3 x4 z0 w) : ∀ (H : Heap) (locs : List Loc) (cells slots : Nat) (ls : Array Slot), HW D cls8 FTc AC A s.heap H locs w → lv_has ls 7 [(0, va_rf (some x0)), (1, .int x1), (2, .int x2), (3, .int x3), (4, .int x4)] → cells ≤ mc → slots ≤ ms → W p l e { frames := 2, cells := mc, slots := ms, locals := 43 } s m args below meth c H locs cells slots (vx_MQ below (QQ D AC A (fun v w9 => ∃ r9 : Int32, v = some (.int r9) ∧ Q r9 w9)) (XX D AC A (fun _ _ => False)) args s mc ms A) (F0 m 17 ls [va_rf z0]) := by
  obtain ⟨hl0, hx, hb, hr, ht, hown, hlocks, hnm, hml, hex, hK, hA, hZ, hV⟩ := id C
  intro H locs cells slots ls hW hl hc hs
  unfold wb_Mo_join_17 at hq
  refine lv_iconst (v := 1) hx hb d_Mo_join_17 (by decide) ?_
  refine lv_goto (tgt := 51) hx hb d_Mo_join_18 (by decide) ?_
  exact k_Mo_join_51 C  _ _ _ _ _ _ _ _ hq _ _ _ _ _ hW (lv_sub hl [0, 1, 2, 3, 4] rfl) hc hs
def wb_Mo_join_46 (e0 mi : Nat) (Q : Int32 → Wd → Prop) (x0 : Nat) (x1 : Int32) (x2 : Int32) (x3 : Int32) (x4 : Int32) (z0 : Option Nat) (w : Wd) : Prop :=
  wb_Mo_join_51 e0 mi Q x0 x1 x2 x3 x4 z0 (2 : Int32) w
set_option maxHeartbeats 4000000 in
set_option maxRecDepth 100000 in
theorem k_Mo_join_46 {p : Program} {l : Launch} {e : Env} {s : State} {m : MethodId} {args : Array Value} {below : List Frame} {meth : Method} {c : Code} {D : va_G} {AC : Nat → ClassId} {e0 mi : Nat} {A : Nat → Prop} {mc ms : Nat} {Q : Int32 → Wd → Prop} (C : Cx p l s m args meth c D AC e0 mi A n_Mo_join b_Mo_join 7 (some .int)) (x0 : Nat) (x1 : Int32) (x2 : Int32) (x3 : Int32) (x4 : Int32) (z0 : Option Nat) (w : Wd) (hq : wb_Mo_join_46 e0 mi Q x0 x1 x2 x3 x4 z0 w) : ∀ (H : Heap) (locs : List Loc) (cells slots : Nat) (ls : Array Slot), HW D cls8 FTc AC A s.heap H locs w → lv_has ls 7 [(0, va_rf (some x0)), (1, .int x1), (2, .int x2), (3, .int x3), (4, .int x4)] → cells ≤ mc → slots ≤ ms → W p l e { frames := 2, cells := mc, slots := ms, locals := 43 } s m args below meth c H locs cells slots (vx_MQ below (QQ D AC A (fun v w9 => ∃ r9 : Int32, v = some (.int r9) ∧ Q r9 w9)) (XX D AC A (fun _ _ => False)) args s mc ms A) (F0 m 46 ls [va_rf z0]) := by
  obtain ⟨hl0, hx, hb, hr, ht, hown, hlocks, hnm, hml, hex, hK, hA, hZ, hV⟩ := id C
  intro H locs cells slots ls hW hl hc hs
  unfold wb_Mo_join_46 at hq
  refine lv_iconst (v := 2) hx hb d_Mo_join_46 (by decide) ?_
  refine lv_goto (tgt := 51) hx hb d_Mo_join_47 (by decide) ?_
  exact k_Mo_join_51 C  _ _ _ _ _ _ _ _ hq _ _ _ _ _ hW (lv_sub hl [0, 1, 2, 3, 4] rfl) hc hs
def wp_Mo_join (e0 mi : Nat) (x0 : Nat) (x1 : Int32) (x2 : Int32) (x3 : Int32) (x4 : Int32) (w : Wd) (Q : Int32 → Wd → Prop) : Prop :=
  bw_is w x0 6 ∧ (wp_Mo_isBelt e0 mi x0 x1 w (fun i8 w3 => (i8 = 0 → (wb_Mo_join_17 e0 mi Q x0 x1 x2 x3 x4 (some x0) w3)) ∧ (¬ i8 = 0 → (bw_is w3 x0 6 ∧ (wp_Mo_isBelt e0 mi x0 x3 w3 (fun i17 w12 => (¬ i17 = 0 → (wp_Mo_in e0 mi x2 (0 : Int32) (1 : Int32) w12 (fun i25 w20 => (i25 = 0 → (wb_Mo_join_46 e0 mi Q x0 x1 x2 x3 x4 (some x0) w20)) ∧ (¬ i25 = 0 → (wp_Mo_in e0 mi x4 (1 : Int32) (9 : Int32) w20 (fun i33 w28 => (i33 = 0 → (wb_Mo_join_46 e0 mi Q x0 x1 x2 x3 x4 (some x0) w28)) ∧ (¬ i33 = 0 → ((x1 < x3 → (wb_Mo_join_51 e0 mi Q x0 x1 x2 x3 x4 (some x0) (0 : Int32) w28)) ∧ (¬ x1 < x3 → (wb_Mo_join_46 e0 mi Q x0 x1 x2 x3 x4 (some x0) w28)))))))))) ∧ (i17 = 0 → (wb_Mo_join_17 e0 mi Q x0 x1 x2 x3 x4 (some x0) w12))))))))
set_option maxHeartbeats 4000000 in
set_option maxRecDepth 100000 in
theorem k_Mo_join_0 {p : Program} {l : Launch} {e : Env} {s : State} {m : MethodId} {args : Array Value} {below : List Frame} {meth : Method} {c : Code} {D : va_G} {AC : Nat → ClassId} {e0 mi : Nat} {A : Nat → Prop} {mc ms : Nat} {Q : Int32 → Wd → Prop} (C : Cx p l s m args meth c D AC e0 mi A n_Mo_join b_Mo_join 7 (some .int)) (x0 : Nat) (x1 : Int32) (x2 : Int32) (x3 : Int32) (x4 : Int32) (w : Wd) (hq : wp_Mo_join e0 mi x0 x1 x2 x3 x4 w Q) : ∀ (H : Heap) (locs : List Loc) (cells slots : Nat) (ls : Array Slot), HW D cls8 FTc AC A s.heap H locs w → lv_has ls 7 [(0, va_rf (some x0)), (1, .int x1), (2, .int x2), (3, .int x3), (4, .int x4)] → cells ≤ mc → slots ≤ ms → W p l e { frames := 2, cells := mc, slots := ms, locals := 43 } s m args below meth c H locs cells slots (vx_MQ below (QQ D AC A (fun v w9 => ∃ r9 : Int32, v = some (.int r9) ∧ Q r9 w9)) (XX D AC A (fun _ _ => False)) args s mc ms A) (F0 m 0 ls []) := by
  obtain ⟨hl0, hx, hb, hr, ht, hown, hlocks, hnm, hml, hex, hK, hA, hZ, hV⟩ := id C
  intro H locs cells slots ls hW hl hc hs
  unfold wp_Mo_join at hq
  refine bw_aload_n hx hb d_Mo_join_0 rfl (lv_at hl 0 rfl) ?_
  refine bw_aload_n hx hb d_Mo_join_1 rfl (lv_at hl 0 rfl) ?_
  refine lv_iload_n hx hb d_Mo_join_2 rfl (lv_at hl 1 rfl) ?_
  obtain ⟨t1, hq⟩ := hq
  refine bw_callV (As := [.int x1]) (rest := [va_rf (some x0)]) C hW ci_Mo_isBelt m_855 m_857 sel_Mo_isBelt d_Mo_join_3 rfl t1 (by decide) rfl rfl rfl hl.1 (by simp [bw_cat, cat_i, cat_j]) ⟨Nat.le_of_ble_eq_true rfl, Nat.le_of_ble_eq_true rfl⟩ ⟨hc, hs⟩ (c_Mo_isBelt hl0 _ _ _ hq) (fun _ _ _ _ _ _ h => h.elim) (fun v2 w3 H locs hv hW => ?_)
  obtain ⟨i8, rfl, hq⟩ := hv
  refine W.eq (g2 := F0 m 6 ls [.int i8, va_rf (some x0)]) rfl ?_
  refine lv_if_eq (tgt := 17) hx hb d_Mo_join_6 (by decide) (fun c9 => ?_) (fun c9 => ?_)
  · have hq := hq.1 c9
    exact k_Mo_join_17 C  _ _ _ _ _ _ _ hq _ _ _ _ _ hW (lv_sub hl [0, 1, 2, 3, 4] rfl) hc hs
  · have hq := hq.2 c9
    refine bw_aload_n hx hb d_Mo_join_9 rfl (lv_at hl 0 rfl) ?_
    refine lv_iload_n hx hb d_Mo_join_10 rfl (lv_at hl 3 rfl) ?_
    obtain ⟨t10, hq⟩ := hq
    refine bw_callV (As := [.int x3]) (rest := [va_rf (some x0)]) C hW ci_Mo_isBelt m_855 m_857 sel_Mo_isBelt d_Mo_join_11 rfl t10 (by decide) rfl rfl rfl hl.1 (by simp [bw_cat, cat_i, cat_j]) ⟨Nat.le_of_ble_eq_true rfl, Nat.le_of_ble_eq_true rfl⟩ ⟨hc, hs⟩ (c_Mo_isBelt hl0 _ _ _ hq) (fun _ _ _ _ _ _ h => h.elim) (fun v11 w12 H locs hv hW => ?_)
    obtain ⟨i17, rfl, hq⟩ := hv
    refine W.eq (g2 := F0 m 14 ls [.int i17, va_rf (some x0)]) rfl ?_
    refine lv_if_ne (tgt := 21) hx hb d_Mo_join_14 (by decide) (fun c18 => ?_) (fun c18 => ?_)
    · have hq := hq.1 c18
      refine lv_iload_n hx hb d_Mo_join_21 rfl (lv_at hl 2 rfl) ?_
      refine lv_iconst (v := 0) hx hb d_Mo_join_22 (by decide) ?_
      refine lv_iconst (v := 1) hx hb d_Mo_join_23 (by decide) ?_
      refine bw_callS (As := [.int x2, .int (0 : Int32), .int (1 : Int32)]) (rest := [va_rf (some x0)]) C hW ci_Mo_in m_848 m_849 d_Mo_join_24 rfl rfl hl.1 (by simp [bw_cat, cat_i, cat_j]) ⟨Nat.le_of_ble_eq_true rfl, Nat.le_of_ble_eq_true rfl⟩ ⟨hc, hs⟩ (c_Mo_in hl0 _ _ _ _ hq) (fun _ _ _ _ _ _ h => h.elim) (fun v19 w20 H locs hv hW => ?_)
      obtain ⟨i25, rfl, hq⟩ := hv
      refine W.eq (g2 := F0 m 27 ls [.int i25, va_rf (some x0)]) rfl ?_
      refine lv_if_eq (tgt := 46) hx hb d_Mo_join_27 (by decide) (fun c26 => ?_) (fun c26 => ?_)
      · have hq := hq.1 c26
        exact k_Mo_join_46 C  _ _ _ _ _ _ _ hq _ _ _ _ _ hW (lv_sub hl [0, 1, 2, 3, 4] rfl) hc hs
      · have hq := hq.2 c26
        refine lv_iload hx hb d_Mo_join_30 (lv_at hl 4 rfl) ?_
        refine lv_iconst (v := 1) hx hb d_Mo_join_32 (by decide) ?_
        refine lv_bipush (v := 9) hx hb d_Mo_join_33 (by decide) ?_
        refine bw_callS (As := [.int x4, .int (1 : Int32), .int (9 : Int32)]) (rest := [va_rf (some x0)]) C hW ci_Mo_in m_848 m_849 d_Mo_join_35 rfl rfl hl.1 (by simp [bw_cat, cat_i, cat_j]) ⟨Nat.le_of_ble_eq_true rfl, Nat.le_of_ble_eq_true rfl⟩ ⟨hc, hs⟩ (c_Mo_in hl0 _ _ _ _ hq) (fun _ _ _ _ _ _ h => h.elim) (fun v27 w28 H locs hv hW => ?_)
        obtain ⟨i33, rfl, hq⟩ := hv
        refine W.eq (g2 := F0 m 38 ls [.int i33, va_rf (some x0)]) rfl ?_
        refine lv_if_eq (tgt := 46) hx hb d_Mo_join_38 (by decide) (fun c34 => ?_) (fun c34 => ?_)
        · have hq := hq.1 c34
          exact k_Mo_join_46 C  _ _ _ _ _ _ _ hq _ _ _ _ _ hW (lv_sub hl [0, 1, 2, 3, 4] rfl) hc hs
        · have hq := hq.2 c34
          refine lv_iload_n hx hb d_Mo_join_41 rfl (lv_at hl 3 rfl) ?_
          refine lv_iload_n hx hb d_Mo_join_42 rfl (lv_at hl 1 rfl) ?_
          refine lv_icmp_gt (tgt := 50) hx hb d_Mo_join_43 (by decide) (fun c35 => ?_) (fun c35 => ?_)
          · have hq := hq.1 c35
            refine lv_iconst (v := 0) hx hb d_Mo_join_50 (by decide) ?_
            exact k_Mo_join_51 C  _ _ _ _ _ _ _ _ hq _ _ _ _ _ hW (lv_sub hl [0, 1, 2, 3, 4] rfl) hc hs
          · have hq := hq.2 c35
            exact k_Mo_join_46 C  _ _ _ _ _ _ _ hq _ _ _ _ _ hW (lv_sub hl [0, 1, 2, 3, 4] rfl) hc hs
    · have hq := hq.2 c18
      exact k_Mo_join_17 C  _ _ _ _ _ _ _ hq _ _ _ _ _ hW (lv_sub hl [0, 1, 2, 3, 4] rfl) hc hs
theorem ci_Mo_join : CI n_Mo_join b_Mo_join 7 (some .int) 4 := ⟨m_854, m_5, by decide, by decide, by decide +kernel⟩
theorem c_Mo_join {l : Launch} {D : va_G} {AC : Nat → ClassId} {e0 mi : Nat} {Q : Int32 → Wd → Prop} (hl0 : l.stackTraces = false) (x0 : Nat) (x1 : Int32) (x2 : Int32) (x3 : Int32) (x4 : Int32) (w : Wd) (hq : wp_Mo_join e0 mi x0 x1 x2 x3 x4 w Q) : Ct l D AC e0 mi n_Mo_join (wy n_Mo_join b_Mo_join 7 (some .int)) 2 43 [va_rf (some x0), .int x1, .int x2, .int x3, .int x4] w 0 0 (fun v w9 => ∃ r9 : Int32, v = some (.int r9) ∧ Q r9 w9) (fun _ _ => False) :=
  Ct.of hl0 (by decide) (by simp [lg_sl, bw_cat, cat_i, cat_j]) (fun p e s m args below meth c A ls C hW hl => k_Mo_join_0 C x0 x1 x2 x3 x4 w hq s.heap [] 0 0 ls hW (by simpa [lv_args, bw_cat, cat_i, cat_j] using hl) (Nat.le_refl _) (Nat.le_refl _))
def wb_Mo_run_29 (e0 mi : Nat) (Q : Wd → Prop) (x0 : Nat) (x1 : Int32) (x2 : Int32) (x3 : Int32) (z0 : Option Nat) (z1 : Int32) (w : Wd) : Prop :=
  ∃ a1 : Nat, z0 = some a1 ∧ (bw_is w a1 6 ∧ (bw_is (sI w a1 0 z1) x0 6 ∧ (((wI (sI w a1 0 z1) x0 0) ≤ 0 → (∃ a5 : Nat, (wR (sI w a1 0 z1) x0 5) = some a5 ∧ (bw_is (sI w a1 0 z1) a5 101 ∧ (vp_in x1 (wN (sI w a1 0 z1) a5) ∧ (∃ a8 : Nat, (wR (sI (sI w a1 0 z1) a5 x1.toNatClampNeg x2) x0 6) = some a8 ∧ (bw_is (sI (sI w a1 0 z1) a5 x1.toNatClampNeg x2) a8 103 ∧ (vp_in x1 (wN (sI (sI w a1 0 z1) a5 x1.toNatClampNeg x2) a8) ∧ (Q (sI (sI (sI w a1 0 z1) a5 x1.toNatClampNeg x2) a8 x1.toNatClampNeg (vp_nar .boolean x3)))))))))) ∧ (¬ (wI (sI w a1 0 z1) x0 0) ≤ 0 → (Q (sI w a1 0 z1))))))
set_option maxHeartbeats 4000000 in
set_option maxRecDepth 100000 in
theorem k_Mo_run_29 {p : Program} {l : Launch} {e : Env} {s : State} {m : MethodId} {args : Array Value} {below : List Frame} {meth : Method} {c : Code} {D : va_G} {AC : Nat → ClassId} {e0 mi : Nat} {A : Nat → Prop} {mc ms : Nat} {Q : Wd → Prop} (C : Cx p l s m args meth c D AC e0 mi A n_Mo_run b_Mo_run 4 none) (x0 : Nat) (x1 : Int32) (x2 : Int32) (x3 : Int32) (z0 : Option Nat) (z1 : Int32) (w : Wd) (hq : wb_Mo_run_29 e0 mi Q x0 x1 x2 x3 z0 z1 w) : ∀ (H : Heap) (locs : List Loc) (cells slots : Nat) (ls : Array Slot), HW D cls8 FTc AC A s.heap H locs w → lv_has ls 4 [(0, va_rf (some x0)), (1, .int x1), (2, .int x2), (3, .int x3)] → cells ≤ mc → slots ≤ ms → W p l e { frames := 2, cells := mc, slots := ms, locals := 43 } s m args below meth c H locs cells slots (vx_MQ below (QQ D AC A (fun v w9 => v = none ∧ Q w9)) (XX D AC A (fun _ _ => False)) args s mc ms A) (F0 m 29 ls [.int z1, va_rf z0]) := by
  obtain ⟨hl0, hx, hb, hr, ht, hown, hlocks, hnm, hml, hex, hK, hA, hZ, hV⟩ := id C
  intro H locs cells slots ls hW hl hc hs
  unfold wb_Mo_run_29 at hq
  obtain ⟨a1, ea1, hq⟩ := hq
  obtain ⟨t2, hq⟩ := hq
  refine bw_putI hx hb ht in_Mo y_Mo yk_Mo nm_Mo hown hK hW ea1 t2 (by decide) rfl 0 (by decide) rfl (ht _ m_744) (fun _ h => h) (Or.inl rfl) rfl rfl d_Mo_run_29 (fun H locs hW => ?_)
  refine bw_aload_n hx hb d_Mo_run_32 rfl (lv_at hl 0 rfl) ?_
  obtain ⟨t3, hq⟩ := hq
  refine bw_getI hx hb ht in_Mo hown hK hW rfl t3 (by decide) rfl 0 (by decide) rfl (ht _ m_744) (fun _ h => h) d_Mo_run_33 ?_
  refine lv_if_le (tgt := 40) hx hb d_Mo_run_36 (by decide) (fun c4 => ?_) (fun c4 => ?_)
  · have hq := hq.1 c4
    refine bw_aload_n hx hb d_Mo_run_40 rfl (lv_at hl 0 rfl) ?_
    refine bw_getR hx hb ht in_Mo hown hK hW rfl t3 (by decide) rfl 5 (by decide) rfl (ht _ m_749) (fun _ h => h) d_Mo_run_41 ?_
    refine lv_iload_n hx hb d_Mo_run_44 rfl (lv_at hl 1 rfl) ?_
    refine lv_iload_n hx hb d_Mo_run_45 rfl (lv_at hl 2 rfl) ?_
    obtain ⟨a5, ea5, hq⟩ := hq
    obtain ⟨t6, hq⟩ := hq
    obtain ⟨h7, hq⟩ := hq
    refine bw_iast C hW ea5 t6 h7 d_Mo_run_46 (fun H locs hW => ?_)
    refine bw_aload_n hx hb d_Mo_run_47 rfl (lv_at hl 0 rfl) ?_
    refine bw_getR hx hb ht in_Mo hown hK hW rfl t3 (by decide) rfl 6 (by decide) rfl (ht _ m_750) (fun _ h => h) d_Mo_run_48 ?_
    refine lv_iload_n hx hb d_Mo_run_51 rfl (lv_at hl 1 rfl) ?_
    refine lv_iload_n hx hb d_Mo_run_52 rfl (lv_at hl 3 rfl) ?_
    obtain ⟨a8, ea8, hq⟩ := hq
    obtain ⟨t9, hq⟩ := hq
    obtain ⟨h10, hq⟩ := hq
    refine bw_zast C hW ea8 t9 h10 d_Mo_run_53 (fun H locs hW => ?_)
    exact bw_vret C hW ⟨rfl, hq⟩ d_Mo_run_54 hc hs
  · have hq := hq.2 c4
    exact bw_vret C hW ⟨rfl, hq⟩ d_Mo_run_39 hc hs
def wp_Mo_run (e0 mi : Nat) (x0 : Nat) (x1 : Int32) (x2 : Int32) (x3 : Int32) (w : Wd) (Q : Wd → Prop) : Prop :=
  bw_is w x0 6 ∧ (wp_Mo_isBelt e0 mi x0 x1 w (fun i8 w3 => (¬ i8 = 0 → (wp_Mo_in e0 mi x2 (0 : Int32) (1000 : Int32) w3 (fun i16 w11 => (¬ i16 = 0 → (wb_Mo_run_29 e0 mi Q x0 x1 x2 x3 (some x0) (0 : Int32) w11)) ∧ (i16 = 0 → (wb_Mo_run_29 e0 mi Q x0 x1 x2 x3 (some x0) (2 : Int32) w11))))) ∧ (i8 = 0 → (wb_Mo_run_29 e0 mi Q x0 x1 x2 x3 (some x0) (1 : Int32) w3))))
set_option maxHeartbeats 4000000 in
set_option maxRecDepth 100000 in
theorem k_Mo_run_0 {p : Program} {l : Launch} {e : Env} {s : State} {m : MethodId} {args : Array Value} {below : List Frame} {meth : Method} {c : Code} {D : va_G} {AC : Nat → ClassId} {e0 mi : Nat} {A : Nat → Prop} {mc ms : Nat} {Q : Wd → Prop} (C : Cx p l s m args meth c D AC e0 mi A n_Mo_run b_Mo_run 4 none) (x0 : Nat) (x1 : Int32) (x2 : Int32) (x3 : Int32) (w : Wd) (hq : wp_Mo_run e0 mi x0 x1 x2 x3 w Q) : ∀ (H : Heap) (locs : List Loc) (cells slots : Nat) (ls : Array Slot), HW D cls8 FTc AC A s.heap H locs w → lv_has ls 4 [(0, va_rf (some x0)), (1, .int x1), (2, .int x2), (3, .int x3)] → cells ≤ mc → slots ≤ ms → W p l e { frames := 2, cells := mc, slots := ms, locals := 43 } s m args below meth c H locs cells slots (vx_MQ below (QQ D AC A (fun v w9 => v = none ∧ Q w9)) (XX D AC A (fun _ _ => False)) args s mc ms A) (F0 m 0 ls []) := by
  obtain ⟨hl0, hx, hb, hr, ht, hown, hlocks, hnm, hml, hex, hK, hA, hZ, hV⟩ := id C
  intro H locs cells slots ls hW hl hc hs
  unfold wp_Mo_run at hq
  refine bw_aload_n hx hb d_Mo_run_0 rfl (lv_at hl 0 rfl) ?_
  refine bw_aload_n hx hb d_Mo_run_1 rfl (lv_at hl 0 rfl) ?_
  refine lv_iload_n hx hb d_Mo_run_2 rfl (lv_at hl 1 rfl) ?_
  obtain ⟨t1, hq⟩ := hq
  refine bw_callV (As := [.int x1]) (rest := [va_rf (some x0)]) C hW ci_Mo_isBelt m_855 m_857 sel_Mo_isBelt d_Mo_run_3 rfl t1 (by decide) rfl rfl rfl hl.1 (by simp [bw_cat, cat_i, cat_j]) ⟨Nat.le_of_ble_eq_true rfl, Nat.le_of_ble_eq_true rfl⟩ ⟨hc, hs⟩ (c_Mo_isBelt hl0 _ _ _ hq) (fun _ _ _ _ _ _ h => h.elim) (fun v2 w3 H locs hv hW => ?_)
  obtain ⟨i8, rfl, hq⟩ := hv
  refine W.eq (g2 := F0 m 6 ls [.int i8, va_rf (some x0)]) rfl ?_
  refine lv_if_ne (tgt := 13) hx hb d_Mo_run_6 (by decide) (fun c9 => ?_) (fun c9 => ?_)
  · have hq := hq.1 c9
    refine lv_iload_n hx hb d_Mo_run_13 rfl (lv_at hl 2 rfl) ?_
    refine lv_iconst (v := 0) hx hb d_Mo_run_14 (by decide) ?_
    refine lv_sipush (v := 1000) hx hb d_Mo_run_15 (by decide) ?_
    refine bw_callS (As := [.int x2, .int (0 : Int32), .int (1000 : Int32)]) (rest := [va_rf (some x0)]) C hW ci_Mo_in m_848 m_849 d_Mo_run_18 rfl rfl hl.1 (by simp [bw_cat, cat_i, cat_j]) ⟨Nat.le_of_ble_eq_true rfl, Nat.le_of_ble_eq_true rfl⟩ ⟨hc, hs⟩ (c_Mo_in hl0 _ _ _ _ hq) (fun _ _ _ _ _ _ h => h.elim) (fun v10 w11 H locs hv hW => ?_)
    obtain ⟨i16, rfl, hq⟩ := hv
    refine W.eq (g2 := F0 m 21 ls [.int i16, va_rf (some x0)]) rfl ?_
    refine lv_if_ne (tgt := 28) hx hb d_Mo_run_21 (by decide) (fun c17 => ?_) (fun c17 => ?_)
    · have hq := hq.1 c17
      refine lv_iconst (v := 0) hx hb d_Mo_run_28 (by decide) ?_
      exact k_Mo_run_29 C  _ _ _ _ _ _ _ hq _ _ _ _ _ hW (lv_sub hl [0, 1, 2, 3] rfl) hc hs
    · have hq := hq.2 c17
      refine lv_iconst (v := 2) hx hb d_Mo_run_24 (by decide) ?_
      refine lv_goto (tgt := 29) hx hb d_Mo_run_25 (by decide) ?_
      exact k_Mo_run_29 C  _ _ _ _ _ _ _ hq _ _ _ _ _ hW (lv_sub hl [0, 1, 2, 3] rfl) hc hs
  · have hq := hq.2 c9
    refine lv_iconst (v := 1) hx hb d_Mo_run_9 (by decide) ?_
    refine lv_goto (tgt := 29) hx hb d_Mo_run_10 (by decide) ?_
    exact k_Mo_run_29 C  _ _ _ _ _ _ _ hq _ _ _ _ _ hW (lv_sub hl [0, 1, 2, 3] rfl) hc hs
theorem ci_Mo_run : CI n_Mo_run b_Mo_run 4 none 3 := ⟨m_862, m_5, by decide, by decide, by decide +kernel⟩
theorem c_Mo_run {l : Launch} {D : va_G} {AC : Nat → ClassId} {e0 mi : Nat} {Q : Wd → Prop} (hl0 : l.stackTraces = false) (x0 : Nat) (x1 : Int32) (x2 : Int32) (x3 : Int32) (w : Wd) (hq : wp_Mo_run e0 mi x0 x1 x2 x3 w Q) : Ct l D AC e0 mi n_Mo_run (wy n_Mo_run b_Mo_run 4 none) 2 43 [va_rf (some x0), .int x1, .int x2, .int x3] w 0 0 (fun v w9 => v = none ∧ Q w9) (fun _ _ => False) :=
  Ct.of hl0 (by decide) (by simp [lg_sl, bw_cat, cat_i, cat_j]) (fun p e s m args below meth c A ls C hW hl => k_Mo_run_0 C x0 x1 x2 x3 w hq s.heap [] 0 0 ls hW (by simpa [lv_args, bw_cat, cat_i, cat_j] using hl) (Nat.le_refl _) (Nat.le_refl _))
def wb_Mo_gaps_32 (e0 mi : Nat) (Q : Wd → Prop) (x0 : Nat) (x1 : Int32) (w : Wd) : Prop :=
  Q w
set_option maxHeartbeats 4000000 in
set_option maxRecDepth 100000 in
theorem k_Mo_gaps_32 {p : Program} {l : Launch} {e : Env} {s : State} {m : MethodId} {args : Array Value} {below : List Frame} {meth : Method} {c : Code} {D : va_G} {AC : Nat → ClassId} {e0 mi : Nat} {A : Nat → Prop} {mc ms : Nat} {Q : Wd → Prop} (C : Cx p l s m args meth c D AC e0 mi A n_Mo_gaps b_Mo_gaps 2 none) (x0 : Nat) (x1 : Int32) (w : Wd) (hq : wb_Mo_gaps_32 e0 mi Q x0 x1 w) : ∀ (H : Heap) (locs : List Loc) (cells slots : Nat) (ls : Array Slot), HW D cls8 FTc AC A s.heap H locs w → lv_has ls 2 [(0, va_rf (some x0)), (1, .int x1)] → cells ≤ mc → slots ≤ ms → W p l e { frames := 1, cells := mc, slots := ms, locals := 22 } s m args below meth c H locs cells slots (vx_MQ below (QQ D AC A (fun v w9 => v = none ∧ Q w9)) (XX D AC A (fun _ _ => False)) args s mc ms A) (F0 m 32 ls []) := by
  obtain ⟨hl0, hx, hb, hr, ht, hown, hlocks, hnm, hml, hex, hK, hA, hZ, hV⟩ := id C
  intro H locs cells slots ls hW hl hc hs
  unfold wb_Mo_gaps_32 at hq
  exact bw_vret C hW ⟨rfl, hq⟩ d_Mo_gaps_32 hc hs
def wb_Mo_gaps_17 (e0 mi : Nat) (Q : Wd → Prop) (x0 : Nat) (x1 : Int32) (z0 : Option Nat) (z1 : Int32) (w : Wd) : Prop :=
  ∃ a1 : Nat, z0 = some a1 ∧ (bw_is w a1 6 ∧ (bw_is (sI w a1 0 z1) x0 6 ∧ ((¬ (wI (sI w a1 0 z1) x0 0) = 0 → (wb_Mo_gaps_32 e0 mi Q x0 x1 (sI w a1 0 z1))) ∧ ((wI (sI w a1 0 z1) x0 0) = 0 → (wb_Mo_gaps_32 e0 mi Q x0 x1 (sI (sI w a1 0 z1) x0 2 x1))))))
set_option maxHeartbeats 4000000 in
set_option maxRecDepth 100000 in
theorem k_Mo_gaps_17 {p : Program} {l : Launch} {e : Env} {s : State} {m : MethodId} {args : Array Value} {below : List Frame} {meth : Method} {c : Code} {D : va_G} {AC : Nat → ClassId} {e0 mi : Nat} {A : Nat → Prop} {mc ms : Nat} {Q : Wd → Prop} (C : Cx p l s m args meth c D AC e0 mi A n_Mo_gaps b_Mo_gaps 2 none) (x0 : Nat) (x1 : Int32) (z0 : Option Nat) (z1 : Int32) (w : Wd) (hq : wb_Mo_gaps_17 e0 mi Q x0 x1 z0 z1 w) : ∀ (H : Heap) (locs : List Loc) (cells slots : Nat) (ls : Array Slot), HW D cls8 FTc AC A s.heap H locs w → lv_has ls 2 [(0, va_rf (some x0)), (1, .int x1)] → cells ≤ mc → slots ≤ ms → W p l e { frames := 1, cells := mc, slots := ms, locals := 22 } s m args below meth c H locs cells slots (vx_MQ below (QQ D AC A (fun v w9 => v = none ∧ Q w9)) (XX D AC A (fun _ _ => False)) args s mc ms A) (F0 m 17 ls [.int z1, va_rf z0]) := by
  obtain ⟨hl0, hx, hb, hr, ht, hown, hlocks, hnm, hml, hex, hK, hA, hZ, hV⟩ := id C
  intro H locs cells slots ls hW hl hc hs
  unfold wb_Mo_gaps_17 at hq
  obtain ⟨a1, ea1, hq⟩ := hq
  obtain ⟨t2, hq⟩ := hq
  refine bw_putI hx hb ht in_Mo y_Mo yk_Mo nm_Mo hown hK hW ea1 t2 (by decide) rfl 0 (by decide) rfl (ht _ m_744) (fun _ h => h) (Or.inl rfl) rfl rfl d_Mo_gaps_17 (fun H locs hW => ?_)
  refine bw_aload_n hx hb d_Mo_gaps_20 rfl (lv_at hl 0 rfl) ?_
  obtain ⟨t3, hq⟩ := hq
  refine bw_getI hx hb ht in_Mo hown hK hW rfl t3 (by decide) rfl 0 (by decide) rfl (ht _ m_744) (fun _ h => h) d_Mo_gaps_21 ?_
  refine lv_if_ne (tgt := 32) hx hb d_Mo_gaps_24 (by decide) (fun c4 => ?_) (fun c4 => ?_)
  · have hq := hq.1 c4
    exact k_Mo_gaps_32 C  _ _ _ hq _ _ _ _ _ hW (lv_sub hl [0, 1] rfl) hc hs
  · have hq := hq.2 c4
    refine bw_aload_n hx hb d_Mo_gaps_27 rfl (lv_at hl 0 rfl) ?_
    refine lv_iload_n hx hb d_Mo_gaps_28 rfl (lv_at hl 1 rfl) ?_
    refine bw_putI hx hb ht in_Mo y_Mo yk_Mo nm_Mo hown hK hW rfl t3 (by decide) rfl 2 (by decide) rfl (ht _ m_746) (fun _ h => h) (Or.inl rfl) rfl rfl d_Mo_gaps_29 (fun H locs hW => ?_)
    exact k_Mo_gaps_32 C  _ _ _ hq _ _ _ _ _ hW (lv_sub hl [0, 1] rfl) hc hs
def wp_Mo_gaps (e0 mi : Nat) (x0 : Nat) (x1 : Int32) (w : Wd) (Q : Wd → Prop) : Prop :=
  wp_Mo_in e0 mi x1 (0 : Int32) (1000 : Int32) w (fun i7 w2 => (i7 = 0 → (wb_Mo_gaps_17 e0 mi Q x0 x1 (some x0) (1 : Int32) w2)) ∧ (¬ i7 = 0 → (wb_Mo_gaps_17 e0 mi Q x0 x1 (some x0) (0 : Int32) w2)))
set_option maxHeartbeats 4000000 in
set_option maxRecDepth 100000 in
theorem k_Mo_gaps_0 {p : Program} {l : Launch} {e : Env} {s : State} {m : MethodId} {args : Array Value} {below : List Frame} {meth : Method} {c : Code} {D : va_G} {AC : Nat → ClassId} {e0 mi : Nat} {A : Nat → Prop} {mc ms : Nat} {Q : Wd → Prop} (C : Cx p l s m args meth c D AC e0 mi A n_Mo_gaps b_Mo_gaps 2 none) (x0 : Nat) (x1 : Int32) (w : Wd) (hq : wp_Mo_gaps e0 mi x0 x1 w Q) : ∀ (H : Heap) (locs : List Loc) (cells slots : Nat) (ls : Array Slot), HW D cls8 FTc AC A s.heap H locs w → lv_has ls 2 [(0, va_rf (some x0)), (1, .int x1)] → cells ≤ mc → slots ≤ ms → W p l e { frames := 1, cells := mc, slots := ms, locals := 22 } s m args below meth c H locs cells slots (vx_MQ below (QQ D AC A (fun v w9 => v = none ∧ Q w9)) (XX D AC A (fun _ _ => False)) args s mc ms A) (F0 m 0 ls []) := by
  obtain ⟨hl0, hx, hb, hr, ht, hown, hlocks, hnm, hml, hex, hK, hA, hZ, hV⟩ := id C
  intro H locs cells slots ls hW hl hc hs
  unfold wp_Mo_gaps at hq
  refine bw_aload_n hx hb d_Mo_gaps_0 rfl (lv_at hl 0 rfl) ?_
  refine lv_iload_n hx hb d_Mo_gaps_1 rfl (lv_at hl 1 rfl) ?_
  refine lv_iconst (v := 0) hx hb d_Mo_gaps_2 (by decide) ?_
  refine lv_sipush (v := 1000) hx hb d_Mo_gaps_3 (by decide) ?_
  refine bw_callS (As := [.int x1, .int (0 : Int32), .int (1000 : Int32)]) (rest := [va_rf (some x0)]) C hW ci_Mo_in m_848 m_849 d_Mo_gaps_6 rfl rfl hl.1 (by simp [bw_cat, cat_i, cat_j]) ⟨Nat.le_of_ble_eq_true rfl, Nat.le_of_ble_eq_true rfl⟩ ⟨hc, hs⟩ (c_Mo_in hl0 _ _ _ _ hq) (fun _ _ _ _ _ _ h => h.elim) (fun v1 w2 H locs hv hW => ?_)
  obtain ⟨i7, rfl, hq⟩ := hv
  refine W.eq (g2 := F0 m 9 ls [.int i7, va_rf (some x0)]) rfl ?_
  refine lv_if_eq (tgt := 16) hx hb d_Mo_gaps_9 (by decide) (fun c8 => ?_) (fun c8 => ?_)
  · have hq := hq.1 c8
    refine lv_iconst (v := 1) hx hb d_Mo_gaps_16 (by decide) ?_
    exact k_Mo_gaps_17 C  _ _ _ _ _ hq _ _ _ _ _ hW (lv_sub hl [0, 1] rfl) hc hs
  · have hq := hq.2 c8
    refine lv_iconst (v := 0) hx hb d_Mo_gaps_12 (by decide) ?_
    refine lv_goto (tgt := 17) hx hb d_Mo_gaps_13 (by decide) ?_
    exact k_Mo_gaps_17 C  _ _ _ _ _ hq _ _ _ _ _ hW (lv_sub hl [0, 1] rfl) hc hs
theorem ci_Mo_gaps : CI n_Mo_gaps b_Mo_gaps 2 none 1 := ⟨m_866, m_5, by decide, by decide, by decide +kernel⟩
theorem c_Mo_gaps {l : Launch} {D : va_G} {AC : Nat → ClassId} {e0 mi : Nat} {Q : Wd → Prop} (hl0 : l.stackTraces = false) (x0 : Nat) (x1 : Int32) (w : Wd) (hq : wp_Mo_gaps e0 mi x0 x1 w Q) : Ct l D AC e0 mi n_Mo_gaps (wy n_Mo_gaps b_Mo_gaps 2 none) 1 22 [va_rf (some x0), .int x1] w 0 0 (fun v w9 => v = none ∧ Q w9) (fun _ _ => False) :=
  Ct.of hl0 (by decide) (by simp [lg_sl, bw_cat, cat_i, cat_j]) (fun p e s m args below meth c A ls C hW hl => k_Mo_gaps_0 C x0 x1 w hq s.heap [] 0 0 ls hW (by simpa [lv_args, bw_cat, cat_i, cat_j] using hl) (Nat.le_refl _) (Nat.le_refl _))
def wb_Mo_scanner_68 (e0 mi : Nat) (Q : Int32 → Wd → Prop) (x0 : Nat) (x1 : Int32) (x2 : Int32) (x3 : Int32) (z0 : Option Nat) (z1 : Int32) (w : Wd) : Prop :=
  ∃ a1 : Nat, z0 = some a1 ∧ (bw_is w a1 6 ∧ (bw_is (sI w a1 0 z1) x0 6 ∧ (((wI (sI w a1 0 z1) x0 0) ≤ 0 → (∃ a5 : Nat, (wR (sI w a1 0 z1) x0 22) = some a5 ∧ (bw_is (sI w a1 0 z1) a5 101 ∧ (vp_in (wI (sI w a1 0 z1) x0 21) (wN (sI w a1 0 z1) a5) ∧ (∃ a8 : Nat, (wR (sI (sI w a1 0 z1) a5 (wI (sI w a1 0 z1) x0 21).toNatClampNeg x1) x0 23) = some a8 ∧ (bw_is (sI (sI w a1 0 z1) a5 (wI (sI w a1 0 z1) x0 21).toNatClampNeg x1) a8 101 ∧ (vp_in (wI (sI (sI w a1 0 z1) a5 (wI (sI w a1 0 z1) x0 21).toNatClampNeg x1) x0 21) (wN (sI (sI w a1 0 z1) a5 (wI (sI w a1 0 z1) x0 21).toNatClampNeg x1) a8) ∧ (∃ a11 : Nat, (wR (sI (sI (sI w a1 0 z1) a5 (wI (sI w a1 0 z1) x0 21).toNatClampNeg x1) a8 (wI (sI (sI w a1 0 z1) a5 (wI (sI w a1 0 z1) x0 21).toNatClampNeg x1) x0 21).toNatClampNeg x2) x0 24) = some a11 ∧ (bw_is (sI (sI (sI w a1 0 z1) a5 (wI (sI w a1 0 z1) x0 21).toNatClampNeg x1) a8 (wI (sI (sI w a1 0 z1) a5 (wI (sI w a1 0 z1) x0 21).toNatClampNeg x1) x0 21).toNatClampNeg x2) a11 101 ∧ (vp_in (wI (sI (sI (sI w a1 0 z1) a5 (wI (sI w a1 0 z1) x0 21).toNatClampNeg x1) a8 (wI (sI (sI w a1 0 z1) a5 (wI (sI w a1 0 z1) x0 21).toNatClampNeg x1) x0 21).toNatClampNeg x2) x0 21) (wN (sI (sI (sI w a1 0 z1) a5 (wI (sI w a1 0 z1) x0 21).toNatClampNeg x1) a8 (wI (sI (sI w a1 0 z1) a5 (wI (sI w a1 0 z1) x0 21).toNatClampNeg x1) x0 21).toNatClampNeg x2) a11) ∧ (Q ((wI (sI (sI (sI (sI (sI w a1 0 z1) a5 (wI (sI w a1 0 z1) x0 21).toNatClampNeg x1) a8 (wI (sI (sI w a1 0 z1) a5 (wI (sI w a1 0 z1) x0 21).toNatClampNeg x1) x0 21).toNatClampNeg x2) a11 (wI (sI (sI (sI w a1 0 z1) a5 (wI (sI w a1 0 z1) x0 21).toNatClampNeg x1) a8 (wI (sI (sI w a1 0 z1) a5 (wI (sI w a1 0 z1) x0 21).toNatClampNeg x1) x0 21).toNatClampNeg x2) x0 21).toNatClampNeg x3) x0 21 ((wI (sI (sI (sI (sI w a1 0 z1) a5 (wI (sI w a1 0 z1) x0 21).toNatClampNeg x1) a8 (wI (sI (sI w a1 0 z1) a5 (wI (sI w a1 0 z1) x0 21).toNatClampNeg x1) x0 21).toNatClampNeg x2) a11 (wI (sI (sI (sI w a1 0 z1) a5 (wI (sI w a1 0 z1) x0 21).toNatClampNeg x1) a8 (wI (sI (sI w a1 0 z1) a5 (wI (sI w a1 0 z1) x0 21).toNatClampNeg x1) x0 21).toNatClampNeg x2) x0 21).toNatClampNeg x3) x0 21) + (1 : Int32))) x0 21) - (1 : Int32)) (sI (sI (sI (sI (sI w a1 0 z1) a5 (wI (sI w a1 0 z1) x0 21).toNatClampNeg x1) a8 (wI (sI (sI w a1 0 z1) a5 (wI (sI w a1 0 z1) x0 21).toNatClampNeg x1) x0 21).toNatClampNeg x2) a11 (wI (sI (sI (sI w a1 0 z1) a5 (wI (sI w a1 0 z1) x0 21).toNatClampNeg x1) a8 (wI (sI (sI w a1 0 z1) a5 (wI (sI w a1 0 z1) x0 21).toNatClampNeg x1) x0 21).toNatClampNeg x2) x0 21).toNatClampNeg x3) x0 21 ((wI (sI (sI (sI (sI w a1 0 z1) a5 (wI (sI w a1 0 z1) x0 21).toNatClampNeg x1) a8 (wI (sI (sI w a1 0 z1) a5 (wI (sI w a1 0 z1) x0 21).toNatClampNeg x1) x0 21).toNatClampNeg x2) a11 (wI (sI (sI (sI w a1 0 z1) a5 (wI (sI w a1 0 z1) x0 21).toNatClampNeg x1) a8 (wI (sI (sI w a1 0 z1) a5 (wI (sI w a1 0 z1) x0 21).toNatClampNeg x1) x0 21).toNatClampNeg x2) x0 21).toNatClampNeg x3) x0 21) + (1 : Int32)))))))))))))) ∧ (¬ (wI (sI w a1 0 z1) x0 0) ≤ 0 → (Q (0 : Int32) (sI w a1 0 z1))))))
set_option maxHeartbeats 4000000 in
set_option maxRecDepth 100000 in
theorem k_Mo_scanner_68 {p : Program} {l : Launch} {e : Env} {s : State} {m : MethodId} {args : Array Value} {below : List Frame} {meth : Method} {c : Code} {D : va_G} {AC : Nat → ClassId} {e0 mi : Nat} {A : Nat → Prop} {mc ms : Nat} {Q : Int32 → Wd → Prop} (C : Cx p l s m args meth c D AC e0 mi A n_Mo_scanner b_Mo_scanner 4 (some .int)) (x0 : Nat) (x1 : Int32) (x2 : Int32) (x3 : Int32) (z0 : Option Nat) (z1 : Int32) (w : Wd) (hq : wb_Mo_scanner_68 e0 mi Q x0 x1 x2 x3 z0 z1 w) : ∀ (H : Heap) (locs : List Loc) (cells slots : Nat) (ls : Array Slot), HW D cls8 FTc AC A s.heap H locs w → lv_has ls 4 [(0, va_rf (some x0)), (1, .int x1), (2, .int x2), (3, .int x3)] → cells ≤ mc → slots ≤ ms → W p l e { frames := 2, cells := mc, slots := ms, locals := 43 } s m args below meth c H locs cells slots (vx_MQ below (QQ D AC A (fun v w9 => ∃ r9 : Int32, v = some (.int r9) ∧ Q r9 w9)) (XX D AC A (fun _ _ => False)) args s mc ms A) (F0 m 68 ls [.int z1, va_rf z0]) := by
  obtain ⟨hl0, hx, hb, hr, ht, hown, hlocks, hnm, hml, hex, hK, hA, hZ, hV⟩ := id C
  intro H locs cells slots ls hW hl hc hs
  unfold wb_Mo_scanner_68 at hq
  obtain ⟨a1, ea1, hq⟩ := hq
  obtain ⟨t2, hq⟩ := hq
  refine bw_putI hx hb ht in_Mo y_Mo yk_Mo nm_Mo hown hK hW ea1 t2 (by decide) rfl 0 (by decide) rfl (ht _ m_744) (fun _ h => h) (Or.inl rfl) rfl rfl d_Mo_scanner_68 (fun H locs hW => ?_)
  refine bw_aload_n hx hb d_Mo_scanner_71 rfl (lv_at hl 0 rfl) ?_
  obtain ⟨t3, hq⟩ := hq
  refine bw_getI hx hb ht in_Mo hown hK hW rfl t3 (by decide) rfl 0 (by decide) rfl (ht _ m_744) (fun _ h => h) d_Mo_scanner_72 ?_
  refine lv_if_le (tgt := 80) hx hb d_Mo_scanner_75 (by decide) (fun c4 => ?_) (fun c4 => ?_)
  · have hq := hq.1 c4
    refine bw_aload_n hx hb d_Mo_scanner_80 rfl (lv_at hl 0 rfl) ?_
    refine bw_getR hx hb ht in_Mo hown hK hW rfl t3 (by decide) rfl 22 (by decide) rfl (ht _ m_766) (fun _ h => h) d_Mo_scanner_81 ?_
    refine bw_aload_n hx hb d_Mo_scanner_84 rfl (lv_at hl 0 rfl) ?_
    refine bw_getI hx hb ht in_Mo hown hK hW rfl t3 (by decide) rfl 21 (by decide) rfl (ht _ m_765) (fun _ h => h) d_Mo_scanner_85 ?_
    refine lv_iload_n hx hb d_Mo_scanner_88 rfl (lv_at hl 1 rfl) ?_
    obtain ⟨a5, ea5, hq⟩ := hq
    obtain ⟨t6, hq⟩ := hq
    obtain ⟨h7, hq⟩ := hq
    refine bw_iast C hW ea5 t6 h7 d_Mo_scanner_89 (fun H locs hW => ?_)
    refine bw_aload_n hx hb d_Mo_scanner_90 rfl (lv_at hl 0 rfl) ?_
    refine bw_getR hx hb ht in_Mo hown hK hW rfl t3 (by decide) rfl 23 (by decide) rfl (ht _ m_767) (fun _ h => h) d_Mo_scanner_91 ?_
    refine bw_aload_n hx hb d_Mo_scanner_94 rfl (lv_at hl 0 rfl) ?_
    refine bw_getI hx hb ht in_Mo hown hK hW rfl t3 (by decide) rfl 21 (by decide) rfl (ht _ m_765) (fun _ h => h) d_Mo_scanner_95 ?_
    refine lv_iload_n hx hb d_Mo_scanner_98 rfl (lv_at hl 2 rfl) ?_
    obtain ⟨a8, ea8, hq⟩ := hq
    obtain ⟨t9, hq⟩ := hq
    obtain ⟨h10, hq⟩ := hq
    refine bw_iast C hW ea8 t9 h10 d_Mo_scanner_99 (fun H locs hW => ?_)
    refine bw_aload_n hx hb d_Mo_scanner_100 rfl (lv_at hl 0 rfl) ?_
    refine bw_getR hx hb ht in_Mo hown hK hW rfl t3 (by decide) rfl 24 (by decide) rfl (ht _ m_768) (fun _ h => h) d_Mo_scanner_101 ?_
    refine bw_aload_n hx hb d_Mo_scanner_104 rfl (lv_at hl 0 rfl) ?_
    refine bw_getI hx hb ht in_Mo hown hK hW rfl t3 (by decide) rfl 21 (by decide) rfl (ht _ m_765) (fun _ h => h) d_Mo_scanner_105 ?_
    refine lv_iload_n hx hb d_Mo_scanner_108 rfl (lv_at hl 3 rfl) ?_
    obtain ⟨a11, ea11, hq⟩ := hq
    obtain ⟨t12, hq⟩ := hq
    obtain ⟨h13, hq⟩ := hq
    refine bw_iast C hW ea11 t12 h13 d_Mo_scanner_109 (fun H locs hW => ?_)
    refine bw_aload_n hx hb d_Mo_scanner_110 rfl (lv_at hl 0 rfl) ?_
    refine lv_dup hx hb d_Mo_scanner_111 (bw_cat _) ?_
    refine bw_getI hx hb ht in_Mo hown hK hW rfl t3 (by decide) rfl 21 (by decide) rfl (ht _ m_765) (fun _ h => h) d_Mo_scanner_112 ?_
    refine lv_iconst (v := 1) hx hb d_Mo_scanner_115 (by decide) ?_
    refine lv_iadd hx hb d_Mo_scanner_116 ?_
    refine bw_putI hx hb ht in_Mo y_Mo yk_Mo nm_Mo hown hK hW rfl t3 (by decide) rfl 21 (by decide) rfl (ht _ m_765) (fun _ h => h) (Or.inl rfl) rfl rfl d_Mo_scanner_117 (fun H locs hW => ?_)
    refine bw_aload_n hx hb d_Mo_scanner_120 rfl (lv_at hl 0 rfl) ?_
    refine bw_getI hx hb ht in_Mo hown hK hW rfl t3 (by decide) rfl 21 (by decide) rfl (ht _ m_765) (fun _ h => h) d_Mo_scanner_121 ?_
    refine lv_iconst (v := 1) hx hb d_Mo_scanner_124 (by decide) ?_
    refine lv_isub hx hb d_Mo_scanner_125 ?_
    exact bw_iret C hW ⟨_, rfl, hq⟩ d_Mo_scanner_126 hc hs
  · have hq := hq.2 c4
    refine lv_iconst (v := 0) hx hb d_Mo_scanner_78 (by decide) ?_
    exact bw_iret C hW ⟨_, rfl, hq⟩ d_Mo_scanner_79 hc hs
def wb_Mo_scanner_51 (e0 mi : Nat) (Q : Int32 → Wd → Prop) (x0 : Nat) (x1 : Int32) (x2 : Int32) (x3 : Int32) (z0 : Option Nat) (w : Wd) : Prop :=
  wb_Mo_scanner_68 e0 mi Q x0 x1 x2 x3 z0 (2 : Int32) w
set_option maxHeartbeats 4000000 in
set_option maxRecDepth 100000 in
theorem k_Mo_scanner_51 {p : Program} {l : Launch} {e : Env} {s : State} {m : MethodId} {args : Array Value} {below : List Frame} {meth : Method} {c : Code} {D : va_G} {AC : Nat → ClassId} {e0 mi : Nat} {A : Nat → Prop} {mc ms : Nat} {Q : Int32 → Wd → Prop} (C : Cx p l s m args meth c D AC e0 mi A n_Mo_scanner b_Mo_scanner 4 (some .int)) (x0 : Nat) (x1 : Int32) (x2 : Int32) (x3 : Int32) (z0 : Option Nat) (w : Wd) (hq : wb_Mo_scanner_51 e0 mi Q x0 x1 x2 x3 z0 w) : ∀ (H : Heap) (locs : List Loc) (cells slots : Nat) (ls : Array Slot), HW D cls8 FTc AC A s.heap H locs w → lv_has ls 4 [(0, va_rf (some x0)), (1, .int x1), (2, .int x2), (3, .int x3)] → cells ≤ mc → slots ≤ ms → W p l e { frames := 2, cells := mc, slots := ms, locals := 43 } s m args below meth c H locs cells slots (vx_MQ below (QQ D AC A (fun v w9 => ∃ r9 : Int32, v = some (.int r9) ∧ Q r9 w9)) (XX D AC A (fun _ _ => False)) args s mc ms A) (F0 m 51 ls [va_rf z0]) := by
  obtain ⟨hl0, hx, hb, hr, ht, hown, hlocks, hnm, hml, hex, hK, hA, hZ, hV⟩ := id C
  intro H locs cells slots ls hW hl hc hs
  unfold wb_Mo_scanner_51 at hq
  refine lv_iconst (v := 2) hx hb d_Mo_scanner_51 (by decide) ?_
  refine lv_goto (tgt := 68) hx hb d_Mo_scanner_52 (by decide) ?_
  exact k_Mo_scanner_68 C  _ _ _ _ _ _ _ hq _ _ _ _ _ hW (lv_sub hl [0, 1, 2, 3] rfl) hc hs
def wb_Mo_scanner_34 (e0 mi : Nat) (Q : Int32 → Wd → Prop) (x0 : Nat) (x1 : Int32) (x2 : Int32) (x3 : Int32) (z0 : Option Nat) (z1 : Int32) (z2 : Int32) (z3 : Option Nat) (z4 : Int32) (w : Wd) : Prop :=
  ∃ a1 : Nat, z3 = some a1 ∧ (bw_is w a1 101 ∧ (vp_in z4 (wN w a1) ∧ (wp_Mo_in e0 mi z1 z2 (wI w a1 z4.toNatClampNeg) w (fun i10 w5 => (i10 = 0 → (wb_Mo_scanner_51 e0 mi Q x0 x1 x2 x3 z0 w5)) ∧ (¬ i10 = 0 → (wp_Mo_in e0 mi x3 (1 : Int32) (20 : Int32) w5 (fun i18 w13 => (¬ i18 = 0 → (bw_is w13 x0 6 ∧ ((¬ (wI w13 x0 21) = (4 : Int32) → (wb_Mo_scanner_68 e0 mi Q x0 x1 x2 x3 z0 (0 : Int32) w13)) ∧ ((wI w13 x0 21) = (4 : Int32) → (wb_Mo_scanner_68 e0 mi Q x0 x1 x2 x3 z0 (3 : Int32) w13))))) ∧ (i18 = 0 → (wb_Mo_scanner_51 e0 mi Q x0 x1 x2 x3 z0 w13)))))))))
set_option maxHeartbeats 4000000 in
set_option maxRecDepth 100000 in
theorem k_Mo_scanner_34 {p : Program} {l : Launch} {e : Env} {s : State} {m : MethodId} {args : Array Value} {below : List Frame} {meth : Method} {c : Code} {D : va_G} {AC : Nat → ClassId} {e0 mi : Nat} {A : Nat → Prop} {mc ms : Nat} {Q : Int32 → Wd → Prop} (C : Cx p l s m args meth c D AC e0 mi A n_Mo_scanner b_Mo_scanner 4 (some .int)) (x0 : Nat) (x1 : Int32) (x2 : Int32) (x3 : Int32) (z0 : Option Nat) (z1 : Int32) (z2 : Int32) (z3 : Option Nat) (z4 : Int32) (w : Wd) (hq : wb_Mo_scanner_34 e0 mi Q x0 x1 x2 x3 z0 z1 z2 z3 z4 w) : ∀ (H : Heap) (locs : List Loc) (cells slots : Nat) (ls : Array Slot), HW D cls8 FTc AC A s.heap H locs w → lv_has ls 4 [(0, va_rf (some x0)), (1, .int x1), (2, .int x2), (3, .int x3)] → cells ≤ mc → slots ≤ ms → W p l e { frames := 2, cells := mc, slots := ms, locals := 43 } s m args below meth c H locs cells slots (vx_MQ below (QQ D AC A (fun v w9 => ∃ r9 : Int32, v = some (.int r9) ∧ Q r9 w9)) (XX D AC A (fun _ _ => False)) args s mc ms A) (F0 m 34 ls [.int z4, va_rf z3, .int z2, .int z1, va_rf z0]) := by
  obtain ⟨hl0, hx, hb, hr, ht, hown, hlocks, hnm, hml, hex, hK, hA, hZ, hV⟩ := id C
  intro H locs cells slots ls hW hl hc hs
  unfold wb_Mo_scanner_34 at hq
  obtain ⟨a1, ea1, hq⟩ := hq
  obtain ⟨t2, hq⟩ := hq
  obtain ⟨h3, hq⟩ := hq
  refine bw_iald C hW ea1 t2 h3 d_Mo_scanner_34 ?_
  refine bw_callS (As := [.int z1, .int z2, .int (wI w a1 z4.toNatClampNeg)]) (rest := [va_rf z0]) C hW ci_Mo_in m_848 m_849 d_Mo_scanner_35 rfl rfl hl.1 (by simp [bw_cat, cat_i, cat_j]) ⟨Nat.le_of_ble_eq_true rfl, Nat.le_of_ble_eq_true rfl⟩ ⟨hc, hs⟩ (c_Mo_in hl0 _ _ _ _ hq) (fun _ _ _ _ _ _ h => h.elim) (fun v4 w5 H locs hv hW => ?_)
  obtain ⟨i10, rfl, hq⟩ := hv
  refine W.eq (g2 := F0 m 38 ls [.int i10, va_rf z0]) rfl ?_
  refine lv_if_eq (tgt := 51) hx hb d_Mo_scanner_38 (by decide) (fun c11 => ?_) (fun c11 => ?_)
  · have hq := hq.1 c11
    exact k_Mo_scanner_51 C  _ _ _ _ _ _ hq _ _ _ _ _ hW (lv_sub hl [0, 1, 2, 3] rfl) hc hs
  · have hq := hq.2 c11
    refine lv_iload_n hx hb d_Mo_scanner_41 rfl (lv_at hl 3 rfl) ?_
    refine lv_iconst (v := 1) hx hb d_Mo_scanner_42 (by decide) ?_
    refine lv_bipush (v := 20) hx hb d_Mo_scanner_43 (by decide) ?_
    refine bw_callS (As := [.int x3, .int (1 : Int32), .int (20 : Int32)]) (rest := [va_rf z0]) C hW ci_Mo_in m_848 m_849 d_Mo_scanner_45 rfl rfl hl.1 (by simp [bw_cat, cat_i, cat_j]) ⟨Nat.le_of_ble_eq_true rfl, Nat.le_of_ble_eq_true rfl⟩ ⟨hc, hs⟩ (c_Mo_in hl0 _ _ _ _ hq) (fun _ _ _ _ _ _ h => h.elim) (fun v12 w13 H locs hv hW => ?_)
    obtain ⟨i18, rfl, hq⟩ := hv
    refine W.eq (g2 := F0 m 48 ls [.int i18, va_rf z0]) rfl ?_
    refine lv_if_ne (tgt := 55) hx hb d_Mo_scanner_48 (by decide) (fun c19 => ?_) (fun c19 => ?_)
    · have hq := hq.1 c19
      refine bw_aload_n hx hb d_Mo_scanner_55 rfl (lv_at hl 0 rfl) ?_
      obtain ⟨t20, hq⟩ := hq
      refine bw_getI hx hb ht in_Mo hown hK hW rfl t20 (by decide) rfl 21 (by decide) rfl (ht _ m_765) (fun _ h => h) d_Mo_scanner_56 ?_
      refine lv_iconst (v := 4) hx hb d_Mo_scanner_59 (by decide) ?_
      refine lv_icmp_ne (tgt := 67) hx hb d_Mo_scanner_60 (by decide) (fun c21 => ?_) (fun c21 => ?_)
      · have hq := hq.1 c21
        refine lv_iconst (v := 0) hx hb d_Mo_scanner_67 (by decide) ?_
        exact k_Mo_scanner_68 C  _ _ _ _ _ _ _ hq _ _ _ _ _ hW (lv_sub hl [0, 1, 2, 3] rfl) hc hs
      · have hq := hq.2 c21
        refine lv_iconst (v := 3) hx hb d_Mo_scanner_63 (by decide) ?_
        refine lv_goto (tgt := 68) hx hb d_Mo_scanner_64 (by decide) ?_
        exact k_Mo_scanner_68 C  _ _ _ _ _ _ _ hq _ _ _ _ _ hW (lv_sub hl [0, 1, 2, 3] rfl) hc hs
    · have hq := hq.2 c19
      exact k_Mo_scanner_51 C  _ _ _ _ _ _ hq _ _ _ _ _ hW (lv_sub hl [0, 1, 2, 3] rfl) hc hs
def wp_Mo_scanner (e0 mi : Nat) (x0 : Nat) (x1 : Int32) (x2 : Int32) (x3 : Int32) (w : Wd) (Q : Int32 → Wd → Prop) : Prop :=
  bw_is w x0 6 ∧ (wp_Mo_isBelt e0 mi x0 x1 w (fun i8 w3 => (¬ i8 = 0 → (bw_is w3 x0 6 ∧ (wp_Mo_in e0 mi x1 (0 : Int32) (7 : Int32) w3 (fun i17 w12 => (i17 = 0 → (wb_Mo_scanner_34 e0 mi Q x0 x1 x2 x3 (some x0) x2 (1 : Int32) (wR w3 x0 4) (0 : Int32) w12)) ∧ (¬ i17 = 0 → (wb_Mo_scanner_34 e0 mi Q x0 x1 x2 x3 (some x0) x2 (1 : Int32) (wR w3 x0 4) x1 w12)))))) ∧ (i8 = 0 → (wb_Mo_scanner_68 e0 mi Q x0 x1 x2 x3 (some x0) (1 : Int32) w3))))
set_option maxHeartbeats 4000000 in
set_option maxRecDepth 100000 in
theorem k_Mo_scanner_0 {p : Program} {l : Launch} {e : Env} {s : State} {m : MethodId} {args : Array Value} {below : List Frame} {meth : Method} {c : Code} {D : va_G} {AC : Nat → ClassId} {e0 mi : Nat} {A : Nat → Prop} {mc ms : Nat} {Q : Int32 → Wd → Prop} (C : Cx p l s m args meth c D AC e0 mi A n_Mo_scanner b_Mo_scanner 4 (some .int)) (x0 : Nat) (x1 : Int32) (x2 : Int32) (x3 : Int32) (w : Wd) (hq : wp_Mo_scanner e0 mi x0 x1 x2 x3 w Q) : ∀ (H : Heap) (locs : List Loc) (cells slots : Nat) (ls : Array Slot), HW D cls8 FTc AC A s.heap H locs w → lv_has ls 4 [(0, va_rf (some x0)), (1, .int x1), (2, .int x2), (3, .int x3)] → cells ≤ mc → slots ≤ ms → W p l e { frames := 2, cells := mc, slots := ms, locals := 43 } s m args below meth c H locs cells slots (vx_MQ below (QQ D AC A (fun v w9 => ∃ r9 : Int32, v = some (.int r9) ∧ Q r9 w9)) (XX D AC A (fun _ _ => False)) args s mc ms A) (F0 m 0 ls []) := by
  obtain ⟨hl0, hx, hb, hr, ht, hown, hlocks, hnm, hml, hex, hK, hA, hZ, hV⟩ := id C
  intro H locs cells slots ls hW hl hc hs
  unfold wp_Mo_scanner at hq
  refine bw_aload_n hx hb d_Mo_scanner_0 rfl (lv_at hl 0 rfl) ?_
  refine bw_aload_n hx hb d_Mo_scanner_1 rfl (lv_at hl 0 rfl) ?_
  refine lv_iload_n hx hb d_Mo_scanner_2 rfl (lv_at hl 1 rfl) ?_
  obtain ⟨t1, hq⟩ := hq
  refine bw_callV (As := [.int x1]) (rest := [va_rf (some x0)]) C hW ci_Mo_isBelt m_855 m_857 sel_Mo_isBelt d_Mo_scanner_3 rfl t1 (by decide) rfl rfl rfl hl.1 (by simp [bw_cat, cat_i, cat_j]) ⟨Nat.le_of_ble_eq_true rfl, Nat.le_of_ble_eq_true rfl⟩ ⟨hc, hs⟩ (c_Mo_isBelt hl0 _ _ _ hq) (fun _ _ _ _ _ _ h => h.elim) (fun v2 w3 H locs hv hW => ?_)
  obtain ⟨i8, rfl, hq⟩ := hv
  refine W.eq (g2 := F0 m 6 ls [.int i8, va_rf (some x0)]) rfl ?_
  refine lv_if_ne (tgt := 13) hx hb d_Mo_scanner_6 (by decide) (fun c9 => ?_) (fun c9 => ?_)
  · have hq := hq.1 c9
    refine lv_iload_n hx hb d_Mo_scanner_13 rfl (lv_at hl 2 rfl) ?_
    refine lv_iconst (v := 1) hx hb d_Mo_scanner_14 (by decide) ?_
    refine bw_aload_n hx hb d_Mo_scanner_15 rfl (lv_at hl 0 rfl) ?_
    obtain ⟨t10, hq⟩ := hq
    refine bw_getR hx hb ht in_Mo hown hK hW rfl t10 (by decide) rfl 4 (by decide) rfl (ht _ m_748) (fun _ h => h) d_Mo_scanner_16 ?_
    refine lv_iload_n hx hb d_Mo_scanner_19 rfl (lv_at hl 1 rfl) ?_
    refine lv_iconst (v := 0) hx hb d_Mo_scanner_20 (by decide) ?_
    refine lv_bipush (v := 7) hx hb d_Mo_scanner_21 (by decide) ?_
    refine bw_callS (As := [.int x1, .int (0 : Int32), .int (7 : Int32)]) (rest := [va_rf (wR w3 x0 4), .int (1 : Int32), .int x2, va_rf (some x0)]) C hW ci_Mo_in m_848 m_849 d_Mo_scanner_23 rfl rfl hl.1 (by simp [bw_cat, cat_i, cat_j]) ⟨Nat.le_of_ble_eq_true rfl, Nat.le_of_ble_eq_true rfl⟩ ⟨hc, hs⟩ (c_Mo_in hl0 _ _ _ _ hq) (fun _ _ _ _ _ _ h => h.elim) (fun v11 w12 H locs hv hW => ?_)
    obtain ⟨i17, rfl, hq⟩ := hv
    refine W.eq (g2 := F0 m 26 ls [.int i17, va_rf (wR w3 x0 4), .int (1 : Int32), .int x2, va_rf (some x0)]) rfl ?_
    refine lv_if_eq (tgt := 33) hx hb d_Mo_scanner_26 (by decide) (fun c18 => ?_) (fun c18 => ?_)
    · have hq := hq.1 c18
      refine lv_iconst (v := 0) hx hb d_Mo_scanner_33 (by decide) ?_
      exact k_Mo_scanner_34 C  _ _ _ _ _ _ _ _ _ _ hq _ _ _ _ _ hW (lv_sub hl [0, 1, 2, 3] rfl) hc hs
    · have hq := hq.2 c18
      refine lv_iload_n hx hb d_Mo_scanner_29 rfl (lv_at hl 1 rfl) ?_
      refine lv_goto (tgt := 34) hx hb d_Mo_scanner_30 (by decide) ?_
      exact k_Mo_scanner_34 C  _ _ _ _ _ _ _ _ _ _ hq _ _ _ _ _ hW (lv_sub hl [0, 1, 2, 3] rfl) hc hs
  · have hq := hq.2 c9
    refine lv_iconst (v := 1) hx hb d_Mo_scanner_9 (by decide) ?_
    refine lv_goto (tgt := 68) hx hb d_Mo_scanner_10 (by decide) ?_
    exact k_Mo_scanner_68 C  _ _ _ _ _ _ _ hq _ _ _ _ _ hW (lv_sub hl [0, 1, 2, 3] rfl) hc hs
theorem ci_Mo_scanner : CI n_Mo_scanner b_Mo_scanner 4 (some .int) 3 := ⟨m_870, m_5, by decide, by decide, by decide +kernel⟩
theorem c_Mo_scanner {l : Launch} {D : va_G} {AC : Nat → ClassId} {e0 mi : Nat} {Q : Int32 → Wd → Prop} (hl0 : l.stackTraces = false) (x0 : Nat) (x1 : Int32) (x2 : Int32) (x3 : Int32) (w : Wd) (hq : wp_Mo_scanner e0 mi x0 x1 x2 x3 w Q) : Ct l D AC e0 mi n_Mo_scanner (wy n_Mo_scanner b_Mo_scanner 4 (some .int)) 2 43 [va_rf (some x0), .int x1, .int x2, .int x3] w 0 0 (fun v w9 => ∃ r9 : Int32, v = some (.int r9) ∧ Q r9 w9) (fun _ _ => False) :=
  Ct.of hl0 (by decide) (by simp [lg_sl, bw_cat, cat_i, cat_j]) (fun p e s m args below meth c A ls C hW hl => k_Mo_scanner_0 C x0 x1 x2 x3 w hq s.heap [] 0 0 ls hW (by simpa [lv_args, bw_cat, cat_i, cat_j] using hl) (Nat.le_refl _) (Nat.le_refl _))
def wp_Mo_last (e0 mi : Nat) (x0 : Nat) (x1 : Int32) (w : Wd) (Q : Int32 → Wd → Prop) : Prop :=
  bw_is w x0 6 ∧ (∃ a2 : Nat, (wR w x0 10) = some a2 ∧ (bw_is w a2 101 ∧ (vp_in x1 (wN w a2) ∧ (∃ a5 : Nat, (wR w x0 11) = some a5 ∧ (bw_is w a5 101 ∧ (vp_in ((((60 : Int32) * x1) + (wI w a2 x1.toNatClampNeg)) - (1 : Int32)) (wN w a5) ∧ (Q (wI w a5 ((((60 : Int32) * x1) + (wI w a2 x1.toNatClampNeg)) - (1 : Int32)).toNatClampNeg) w)))))))
set_option maxHeartbeats 4000000 in
set_option maxRecDepth 100000 in
theorem k_Mo_last_0 {p : Program} {l : Launch} {e : Env} {s : State} {m : MethodId} {args : Array Value} {below : List Frame} {meth : Method} {c : Code} {D : va_G} {AC : Nat → ClassId} {e0 mi : Nat} {A : Nat → Prop} {mc ms : Nat} {Q : Int32 → Wd → Prop} (C : Cx p l s m args meth c D AC e0 mi A n_Mo_last b_Mo_last 2 (some .int)) (x0 : Nat) (x1 : Int32) (w : Wd) (hq : wp_Mo_last e0 mi x0 x1 w Q) : ∀ (H : Heap) (locs : List Loc) (cells slots : Nat) (ls : Array Slot), HW D cls8 FTc AC A s.heap H locs w → lv_has ls 2 [(0, va_rf (some x0)), (1, .int x1)] → cells ≤ mc → slots ≤ ms → W p l e { frames := 0, cells := mc, slots := ms, locals := 0 } s m args below meth c H locs cells slots (vx_MQ below (QQ D AC A (fun v w9 => ∃ r9 : Int32, v = some (.int r9) ∧ Q r9 w9)) (XX D AC A (fun _ _ => False)) args s mc ms A) (F0 m 0 ls []) := by
  obtain ⟨hl0, hx, hb, hr, ht, hown, hlocks, hnm, hml, hex, hK, hA, hZ, hV⟩ := id C
  intro H locs cells slots ls hW hl hc hs
  unfold wp_Mo_last at hq
  refine bw_aload_n hx hb d_Mo_last_0 rfl (lv_at hl 0 rfl) ?_
  obtain ⟨t1, hq⟩ := hq
  refine bw_getR hx hb ht in_Mo hown hK hW rfl t1 (by decide) rfl 11 (by decide) rfl (ht _ m_755) (fun _ h => h) d_Mo_last_1 ?_
  refine lv_bipush (v := 60) hx hb d_Mo_last_4 (by decide) ?_
  refine lv_iload_n hx hb d_Mo_last_6 rfl (lv_at hl 1 rfl) ?_
  refine lv_imul hx hb d_Mo_last_7 ?_
  refine bw_aload_n hx hb d_Mo_last_8 rfl (lv_at hl 0 rfl) ?_
  refine bw_getR hx hb ht in_Mo hown hK hW rfl t1 (by decide) rfl 10 (by decide) rfl (ht _ m_754) (fun _ h => h) d_Mo_last_9 ?_
  refine lv_iload_n hx hb d_Mo_last_12 rfl (lv_at hl 1 rfl) ?_
  obtain ⟨a2, ea2, hq⟩ := hq
  obtain ⟨t3, hq⟩ := hq
  obtain ⟨h4, hq⟩ := hq
  refine bw_iald C hW ea2 t3 h4 d_Mo_last_13 ?_
  refine lv_iadd hx hb d_Mo_last_14 ?_
  refine lv_iconst (v := 1) hx hb d_Mo_last_15 (by decide) ?_
  refine lv_isub hx hb d_Mo_last_16 ?_
  obtain ⟨a5, ea5, hq⟩ := hq
  obtain ⟨t6, hq⟩ := hq
  obtain ⟨h7, hq⟩ := hq
  refine bw_iald C hW ea5 t6 h7 d_Mo_last_17 ?_
  exact bw_iret C hW ⟨_, rfl, hq⟩ d_Mo_last_18 hc hs
theorem ci_Mo_last : CI n_Mo_last b_Mo_last 2 (some .int) 1 := ⟨m_882, m_5, by decide, by decide, by decide +kernel⟩
theorem sel_Mo_last : Cond.selects "BeltRowsModel" n_Mo_last n_Mo_last ∈ TBL := List.mem_filter.mpr ⟨List.mem_append_left _ (List.mem_map.mpr ⟨(n_Mo_last, 32), by decide +kernel, rfl⟩), rfl⟩
theorem c_Mo_last {l : Launch} {D : va_G} {AC : Nat → ClassId} {e0 mi : Nat} {Q : Int32 → Wd → Prop} (hl0 : l.stackTraces = false) (x0 : Nat) (x1 : Int32) (w : Wd) (hq : wp_Mo_last e0 mi x0 x1 w Q) : Ct l D AC e0 mi n_Mo_last (wy n_Mo_last b_Mo_last 2 (some .int)) 0 0 [va_rf (some x0), .int x1] w 0 0 (fun v w9 => ∃ r9 : Int32, v = some (.int r9) ∧ Q r9 w9) (fun _ _ => False) :=
  Ct.of hl0 (by decide) (by simp [lg_sl, bw_cat, cat_i, cat_j]) (fun p e s m args below meth c A ls C hW hl => k_Mo_last_0 C x0 x1 w hq s.heap [] 0 0 ls hW (by simpa [lv_args, bw_cat, cat_i, cat_j] using hl) (Nat.le_refl _) (Nat.le_refl _))
def wp_Mo_rear (e0 mi : Nat) (x0 : Nat) (x1 : Int32) (w : Wd) (Q : Int32 → Wd → Prop) : Prop :=
  bw_is w x0 6 ∧ (∃ a2 : Nat, (wR w x0 15) = some a2 ∧ (bw_is w a2 101 ∧ (vp_in x1 (wN w a2) ∧ (∃ a5 : Nat, (wR w x0 16) = some a5 ∧ (bw_is w a5 101 ∧ (vp_in x1 (wN w a5) ∧ (Q ((wI w a2 x1.toNatClampNeg) - (wI w a5 x1.toNatClampNeg)) w)))))))
set_option maxHeartbeats 4000000 in
set_option maxRecDepth 100000 in
theorem k_Mo_rear_0 {p : Program} {l : Launch} {e : Env} {s : State} {m : MethodId} {args : Array Value} {below : List Frame} {meth : Method} {c : Code} {D : va_G} {AC : Nat → ClassId} {e0 mi : Nat} {A : Nat → Prop} {mc ms : Nat} {Q : Int32 → Wd → Prop} (C : Cx p l s m args meth c D AC e0 mi A n_Mo_rear b_Mo_rear 2 (some .int)) (x0 : Nat) (x1 : Int32) (w : Wd) (hq : wp_Mo_rear e0 mi x0 x1 w Q) : ∀ (H : Heap) (locs : List Loc) (cells slots : Nat) (ls : Array Slot), HW D cls8 FTc AC A s.heap H locs w → lv_has ls 2 [(0, va_rf (some x0)), (1, .int x1)] → cells ≤ mc → slots ≤ ms → W p l e { frames := 0, cells := mc, slots := ms, locals := 0 } s m args below meth c H locs cells slots (vx_MQ below (QQ D AC A (fun v w9 => ∃ r9 : Int32, v = some (.int r9) ∧ Q r9 w9)) (XX D AC A (fun _ _ => False)) args s mc ms A) (F0 m 0 ls []) := by
  obtain ⟨hl0, hx, hb, hr, ht, hown, hlocks, hnm, hml, hex, hK, hA, hZ, hV⟩ := id C
  intro H locs cells slots ls hW hl hc hs
  unfold wp_Mo_rear at hq
  refine bw_aload_n hx hb d_Mo_rear_0 rfl (lv_at hl 0 rfl) ?_
  obtain ⟨t1, hq⟩ := hq
  refine bw_getR hx hb ht in_Mo hown hK hW rfl t1 (by decide) rfl 15 (by decide) rfl (ht _ m_759) (fun _ h => h) d_Mo_rear_1 ?_
  refine lv_iload_n hx hb d_Mo_rear_4 rfl (lv_at hl 1 rfl) ?_
  obtain ⟨a2, ea2, hq⟩ := hq
  obtain ⟨t3, hq⟩ := hq
  obtain ⟨h4, hq⟩ := hq
  refine bw_iald C hW ea2 t3 h4 d_Mo_rear_5 ?_
  refine bw_aload_n hx hb d_Mo_rear_6 rfl (lv_at hl 0 rfl) ?_
  refine bw_getR hx hb ht in_Mo hown hK hW rfl t1 (by decide) rfl 16 (by decide) rfl (ht _ m_760) (fun _ h => h) d_Mo_rear_7 ?_
  refine lv_iload_n hx hb d_Mo_rear_10 rfl (lv_at hl 1 rfl) ?_
  obtain ⟨a5, ea5, hq⟩ := hq
  obtain ⟨t6, hq⟩ := hq
  obtain ⟨h7, hq⟩ := hq
  refine bw_iald C hW ea5 t6 h7 d_Mo_rear_11 ?_
  refine lv_isub hx hb d_Mo_rear_12 ?_
  exact bw_iret C hW ⟨_, rfl, hq⟩ d_Mo_rear_13 hc hs
theorem ci_Mo_rear : CI n_Mo_rear b_Mo_rear 2 (some .int) 1 := ⟨m_886, m_5, by decide, by decide, by decide +kernel⟩
theorem sel_Mo_rear : Cond.selects "BeltRowsModel" n_Mo_rear n_Mo_rear ∈ TBL := List.mem_filter.mpr ⟨List.mem_append_left _ (List.mem_map.mpr ⟨(n_Mo_rear, 32), by decide +kernel, rfl⟩), rfl⟩
theorem c_Mo_rear {l : Launch} {D : va_G} {AC : Nat → ClassId} {e0 mi : Nat} {Q : Int32 → Wd → Prop} (hl0 : l.stackTraces = false) (x0 : Nat) (x1 : Int32) (w : Wd) (hq : wp_Mo_rear e0 mi x0 x1 w Q) : Ct l D AC e0 mi n_Mo_rear (wy n_Mo_rear b_Mo_rear 2 (some .int)) 0 0 [va_rf (some x0), .int x1] w 0 0 (fun v w9 => ∃ r9 : Int32, v = some (.int r9) ∧ Q r9 w9) (fun _ _ => False) :=
  Ct.of hl0 (by decide) (by simp [lg_sl, bw_cat, cat_i, cat_j]) (fun p e s m args below meth c A ls C hW hl => k_Mo_rear_0 C x0 x1 w hq s.heap [] 0 0 ls hW (by simpa [lv_args, bw_cat, cat_i, cat_j] using hl) (Nat.le_refl _) (Nat.le_refl _))
def wb_Mo_missing_27 (e0 mi : Nat) (Q : Int32 → Wd → Prop) (x0 : Nat) (x1 : Int32) (z0 : Int32) (w : Wd) : Prop :=
  Q z0 w
set_option maxHeartbeats 4000000 in
set_option maxRecDepth 100000 in
theorem k_Mo_missing_27 {p : Program} {l : Launch} {e : Env} {s : State} {m : MethodId} {args : Array Value} {below : List Frame} {meth : Method} {c : Code} {D : va_G} {AC : Nat → ClassId} {e0 mi : Nat} {A : Nat → Prop} {mc ms : Nat} {Q : Int32 → Wd → Prop} (C : Cx p l s m args meth c D AC e0 mi A n_Mo_missing b_Mo_missing 2 (some .int)) (x0 : Nat) (x1 : Int32) (z0 : Int32) (w : Wd) (hq : wb_Mo_missing_27 e0 mi Q x0 x1 z0 w) : ∀ (H : Heap) (locs : List Loc) (cells slots : Nat) (ls : Array Slot), HW D cls8 FTc AC A s.heap H locs w → lv_has ls 2 [(0, va_rf (some x0)), (1, .int x1)] → cells ≤ mc → slots ≤ ms → W p l e { frames := 1, cells := mc, slots := ms, locals := 21 } s m args below meth c H locs cells slots (vx_MQ below (QQ D AC A (fun v w9 => ∃ r9 : Int32, v = some (.int r9) ∧ Q r9 w9)) (XX D AC A (fun _ _ => False)) args s mc ms A) (F0 m 27 ls [.int z0]) := by
  obtain ⟨hl0, hx, hb, hr, ht, hown, hlocks, hnm, hml, hex, hK, hA, hZ, hV⟩ := id C
  intro H locs cells slots ls hW hl hc hs
  unfold wb_Mo_missing_27 at hq
  exact bw_iret C hW ⟨_, rfl, hq⟩ d_Mo_missing_27 hc hs
def wp_Mo_missing (e0 mi : Nat) (x0 : Nat) (x1 : Int32) (w : Wd) (Q : Int32 → Wd → Prop) : Prop :=
  bw_is w x0 6 ∧ (∃ a2 : Nat, (wR w x0 10) = some a2 ∧ (bw_is w a2 101 ∧ (vp_in x1 (wN w a2) ∧ ((¬ (wI w a2 x1.toNatClampNeg) = 0 → (wp_Mo_last e0 mi x0 x1 w (fun i12 w7 => bw_is w7 x0 6 ∧ (wp_Mo_rear e0 mi x0 i12 w7 (fun i20 w15 => wb_Mo_missing_27 e0 mi Q x0 x1 ((wI w x0 2) - i20) w15))))) ∧ ((wI w a2 x1.toNatClampNeg) = 0 → (wb_Mo_missing_27 e0 mi Q x0 x1 (0 : Int32) w))))))
set_option maxHeartbeats 4000000 in
set_option maxRecDepth 100000 in
theorem k_Mo_missing_0 {p : Program} {l : Launch} {e : Env} {s : State} {m : MethodId} {args : Array Value} {below : List Frame} {meth : Method} {c : Code} {D : va_G} {AC : Nat → ClassId} {e0 mi : Nat} {A : Nat → Prop} {mc ms : Nat} {Q : Int32 → Wd → Prop} (C : Cx p l s m args meth c D AC e0 mi A n_Mo_missing b_Mo_missing 2 (some .int)) (x0 : Nat) (x1 : Int32) (w : Wd) (hq : wp_Mo_missing e0 mi x0 x1 w Q) : ∀ (H : Heap) (locs : List Loc) (cells slots : Nat) (ls : Array Slot), HW D cls8 FTc AC A s.heap H locs w → lv_has ls 2 [(0, va_rf (some x0)), (1, .int x1)] → cells ≤ mc → slots ≤ ms → W p l e { frames := 1, cells := mc, slots := ms, locals := 21 } s m args below meth c H locs cells slots (vx_MQ below (QQ D AC A (fun v w9 => ∃ r9 : Int32, v = some (.int r9) ∧ Q r9 w9)) (XX D AC A (fun _ _ => False)) args s mc ms A) (F0 m 0 ls []) := by
  obtain ⟨hl0, hx, hb, hr, ht, hown, hlocks, hnm, hml, hex, hK, hA, hZ, hV⟩ := id C
  intro H locs cells slots ls hW hl hc hs
  unfold wp_Mo_missing at hq
  refine bw_aload_n hx hb d_Mo_missing_0 rfl (lv_at hl 0 rfl) ?_
  obtain ⟨t1, hq⟩ := hq
  refine bw_getR hx hb ht in_Mo hown hK hW rfl t1 (by decide) rfl 10 (by decide) rfl (ht _ m_754) (fun _ h => h) d_Mo_missing_1 ?_
  refine lv_iload_n hx hb d_Mo_missing_4 rfl (lv_at hl 1 rfl) ?_
  obtain ⟨a2, ea2, hq⟩ := hq
  obtain ⟨t3, hq⟩ := hq
  obtain ⟨h4, hq⟩ := hq
  refine bw_iald C hW ea2 t3 h4 d_Mo_missing_5 ?_
  refine lv_if_ne (tgt := 13) hx hb d_Mo_missing_6 (by decide) (fun c5 => ?_) (fun c5 => ?_)
  · have hq := hq.1 c5
    refine bw_aload_n hx hb d_Mo_missing_13 rfl (lv_at hl 0 rfl) ?_
    refine bw_getI hx hb ht in_Mo hown hK hW rfl t1 (by decide) rfl 2 (by decide) rfl (ht _ m_746) (fun _ h => h) d_Mo_missing_14 ?_
    refine bw_aload_n hx hb d_Mo_missing_17 rfl (lv_at hl 0 rfl) ?_
    refine bw_aload_n hx hb d_Mo_missing_18 rfl (lv_at hl 0 rfl) ?_
    refine lv_iload_n hx hb d_Mo_missing_19 rfl (lv_at hl 1 rfl) ?_
    refine bw_callV (As := [.int x1]) (rest := [va_rf (some x0), .int (wI w x0 2)]) C hW ci_Mo_last m_879 m_881 sel_Mo_last d_Mo_missing_20 rfl t1 (by decide) rfl rfl rfl hl.1 (by simp [bw_cat, cat_i, cat_j]) ⟨Nat.le_of_ble_eq_true rfl, Nat.le_of_ble_eq_true rfl⟩ ⟨hc, hs⟩ (c_Mo_last hl0 _ _ _ hq) (fun _ _ _ _ _ _ h => h.elim) (fun v6 w7 H locs hv hW => ?_)
    obtain ⟨i12, rfl, hq⟩ := hv
    refine W.eq (g2 := F0 m 23 ls [.int i12, va_rf (some x0), .int (wI w x0 2)]) rfl ?_
    obtain ⟨t13, hq⟩ := hq
    refine bw_callV (As := [.int i12]) (rest := [.int (wI w x0 2)]) C hW ci_Mo_rear m_883 m_885 sel_Mo_rear d_Mo_missing_23 rfl t13 (by decide) rfl rfl rfl hl.1 (by simp [bw_cat, cat_i, cat_j]) ⟨Nat.le_of_ble_eq_true rfl, Nat.le_of_ble_eq_true rfl⟩ ⟨hc, hs⟩ (c_Mo_rear hl0 _ _ _ hq) (fun _ _ _ _ _ _ h => h.elim) (fun v14 w15 H locs hv hW => ?_)
    obtain ⟨i20, rfl, hq⟩ := hv
    refine W.eq (g2 := F0 m 26 ls [.int i20, .int (wI w x0 2)]) rfl ?_
    refine lv_isub hx hb d_Mo_missing_26 ?_
    exact k_Mo_missing_27 C  _ _ _ _ hq _ _ _ _ _ hW (lv_sub hl [0, 1] rfl) hc hs
  · have hq := hq.2 c5
    refine lv_iconst (v := 0) hx hb d_Mo_missing_9 (by decide) ?_
    refine lv_goto (tgt := 27) hx hb d_Mo_missing_10 (by decide) ?_
    exact k_Mo_missing_27 C  _ _ _ _ hq _ _ _ _ _ hW (lv_sub hl [0, 1] rfl) hc hs
theorem ci_Mo_missing : CI n_Mo_missing b_Mo_missing 2 (some .int) 1 := ⟨m_878, m_5, by decide, by decide, by decide +kernel⟩
theorem sel_Mo_missing : Cond.selects "BeltRowsModel" n_Mo_missing n_Mo_missing ∈ TBL := List.mem_filter.mpr ⟨List.mem_append_left _ (List.mem_map.mpr ⟨(n_Mo_missing, 32), by decide +kernel, rfl⟩), rfl⟩
theorem c_Mo_missing {l : Launch} {D : va_G} {AC : Nat → ClassId} {e0 mi : Nat} {Q : Int32 → Wd → Prop} (hl0 : l.stackTraces = false) (x0 : Nat) (x1 : Int32) (w : Wd) (hq : wp_Mo_missing e0 mi x0 x1 w Q) : Ct l D AC e0 mi n_Mo_missing (wy n_Mo_missing b_Mo_missing 2 (some .int)) 1 21 [va_rf (some x0), .int x1] w 0 0 (fun v w9 => ∃ r9 : Int32, v = some (.int r9) ∧ Q r9 w9) (fun _ _ => False) :=
  Ct.of hl0 (by decide) (by simp [lg_sl, bw_cat, cat_i, cat_j]) (fun p e s m args below meth c A ls C hW hl => k_Mo_missing_0 C x0 x1 w hq s.heap [] 0 0 ls hW (by simpa [lv_args, bw_cat, cat_i, cat_j] using hl) (Nat.le_refl _) (Nat.le_refl _))
def wp_Mo_come (e0 mi : Nat) (x0 : Nat) (x1 : Int32) (x2 : Int32) (w : Wd) (Q : Wd → Prop) : Prop :=
  bw_is w x0 6 ∧ (∃ a2 : Nat, (wR w x0 14) = some a2 ∧ (bw_is w a2 101 ∧ (vp_in x1 (wN w a2) ∧ (∃ a5 : Nat, (wR (sI w a2 x1.toNatClampNeg x2) x0 15) = some a5 ∧ (bw_is (sI w a2 x1.toNatClampNeg x2) a5 101 ∧ (vp_in x1 (wN (sI w a2 x1.toNatClampNeg x2) a5) ∧ (∃ a8 : Nat, (wR (sI (sI w a2 x1.toNatClampNeg x2) a5 x1.toNatClampNeg (0 : Int32)) x0 17) = some a8 ∧ (bw_is (sI (sI w a2 x1.toNatClampNeg x2) a5 x1.toNatClampNeg (0 : Int32)) a8 101 ∧ (vp_in x1 (wN (sI (sI w a2 x1.toNatClampNeg x2) a5 x1.toNatClampNeg (0 : Int32)) a8) ∧ (∃ a11 : Nat, (wR (sI (sI (sI w a2 x1.toNatClampNeg x2) a5 x1.toNatClampNeg (0 : Int32)) a8 x1.toNatClampNeg (0 : Int32)) x0 18) = some a11 ∧ (bw_is (sI (sI (sI w a2 x1.toNatClampNeg x2) a5 x1.toNatClampNeg (0 : Int32)) a8 x1.toNatClampNeg (0 : Int32)) a11 103 ∧ (vp_in x1 (wN (sI (sI (sI w a2 x1.toNatClampNeg x2) a5 x1.toNatClampNeg (0 : Int32)) a8 x1.toNatClampNeg (0 : Int32)) a11) ∧ (∃ a14 : Nat, (wR (sI (sI (sI (sI w a2 x1.toNatClampNeg x2) a5 x1.toNatClampNeg (0 : Int32)) a8 x1.toNatClampNeg (0 : Int32)) a11 x1.toNatClampNeg (vp_nar .boolean (0 : Int32))) x0 19) = some a14 ∧ (bw_is (sI (sI (sI (sI w a2 x1.toNatClampNeg x2) a5 x1.toNatClampNeg (0 : Int32)) a8 x1.toNatClampNeg (0 : Int32)) a11 x1.toNatClampNeg (vp_nar .boolean (0 : Int32))) a14 101 ∧ (vp_in x1 (wN (sI (sI (sI (sI w a2 x1.toNatClampNeg x2) a5 x1.toNatClampNeg (0 : Int32)) a8 x1.toNatClampNeg (0 : Int32)) a11 x1.toNatClampNeg (vp_nar .boolean (0 : Int32))) a14) ∧ (∃ a17 : Nat, (wR (sI (sI (sI (sI (sI w a2 x1.toNatClampNeg x2) a5 x1.toNatClampNeg (0 : Int32)) a8 x1.toNatClampNeg (0 : Int32)) a11 x1.toNatClampNeg (vp_nar .boolean (0 : Int32))) a14 x1.toNatClampNeg (0 : Int32)) x0 10) = some a17 ∧ (bw_is (sI (sI (sI (sI (sI w a2 x1.toNatClampNeg x2) a5 x1.toNatClampNeg (0 : Int32)) a8 x1.toNatClampNeg (0 : Int32)) a11 x1.toNatClampNeg (vp_nar .boolean (0 : Int32))) a14 x1.toNatClampNeg (0 : Int32)) a17 101 ∧ (vp_in x2 (wN (sI (sI (sI (sI (sI w a2 x1.toNatClampNeg x2) a5 x1.toNatClampNeg (0 : Int32)) a8 x1.toNatClampNeg (0 : Int32)) a11 x1.toNatClampNeg (vp_nar .boolean (0 : Int32))) a14 x1.toNatClampNeg (0 : Int32)) a17) ∧ (∃ a20 : Nat, (wR (sI (sI (sI (sI (sI w a2 x1.toNatClampNeg x2) a5 x1.toNatClampNeg (0 : Int32)) a8 x1.toNatClampNeg (0 : Int32)) a11 x1.toNatClampNeg (vp_nar .boolean (0 : Int32))) a14 x1.toNatClampNeg (0 : Int32)) x0 11) = some a20 ∧ (bw_is (sI (sI (sI (sI (sI w a2 x1.toNatClampNeg x2) a5 x1.toNatClampNeg (0 : Int32)) a8 x1.toNatClampNeg (0 : Int32)) a11 x1.toNatClampNeg (vp_nar .boolean (0 : Int32))) a14 x1.toNatClampNeg (0 : Int32)) a20 101 ∧ (vp_in (((60 : Int32) * x2) + (wI (sI (sI (sI (sI (sI w a2 x1.toNatClampNeg x2) a5 x1.toNatClampNeg (0 : Int32)) a8 x1.toNatClampNeg (0 : Int32)) a11 x1.toNatClampNeg (vp_nar .boolean (0 : Int32))) a14 x1.toNatClampNeg (0 : Int32)) a17 x2.toNatClampNeg)) (wN (sI (sI (sI (sI (sI w a2 x1.toNatClampNeg x2) a5 x1.toNatClampNeg (0 : Int32)) a8 x1.toNatClampNeg (0 : Int32)) a11 x1.toNatClampNeg (vp_nar .boolean (0 : Int32))) a14 x1.toNatClampNeg (0 : Int32)) a20) ∧ (∃ a23 : Nat, (wR (sI (sI (sI (sI (sI (sI w a2 x1.toNatClampNeg x2) a5 x1.toNatClampNeg (0 : Int32)) a8 x1.toNatClampNeg (0 : Int32)) a11 x1.toNatClampNeg (vp_nar .boolean (0 : Int32))) a14 x1.toNatClampNeg (0 : Int32)) a20 (((60 : Int32) * x2) + (wI (sI (sI (sI (sI (sI w a2 x1.toNatClampNeg x2) a5 x1.toNatClampNeg (0 : Int32)) a8 x1.toNatClampNeg (0 : Int32)) a11 x1.toNatClampNeg (vp_nar .boolean (0 : Int32))) a14 x1.toNatClampNeg (0 : Int32)) a17 x2.toNatClampNeg)).toNatClampNeg x1) x0 10) = some a23 ∧ (bw_is (sI (sI (sI (sI (sI (sI w a2 x1.toNatClampNeg x2) a5 x1.toNatClampNeg (0 : Int32)) a8 x1.toNatClampNeg (0 : Int32)) a11 x1.toNatClampNeg (vp_nar .boolean (0 : Int32))) a14 x1.toNatClampNeg (0 : Int32)) a20 (((60 : Int32) * x2) + (wI (sI (sI (sI (sI (sI w a2 x1.toNatClampNeg x2) a5 x1.toNatClampNeg (0 : Int32)) a8 x1.toNatClampNeg (0 : Int32)) a11 x1.toNatClampNeg (vp_nar .boolean (0 : Int32))) a14 x1.toNatClampNeg (0 : Int32)) a17 x2.toNatClampNeg)).toNatClampNeg x1) a23 101 ∧ (vp_in x2 (wN (sI (sI (sI (sI (sI (sI w a2 x1.toNatClampNeg x2) a5 x1.toNatClampNeg (0 : Int32)) a8 x1.toNatClampNeg (0 : Int32)) a11 x1.toNatClampNeg (vp_nar .boolean (0 : Int32))) a14 x1.toNatClampNeg (0 : Int32)) a20 (((60 : Int32) * x2) + (wI (sI (sI (sI (sI (sI w a2 x1.toNatClampNeg x2) a5 x1.toNatClampNeg (0 : Int32)) a8 x1.toNatClampNeg (0 : Int32)) a11 x1.toNatClampNeg (vp_nar .boolean (0 : Int32))) a14 x1.toNatClampNeg (0 : Int32)) a17 x2.toNatClampNeg)).toNatClampNeg x1) a23) ∧ (vp_in x2 (wN (sI (sI (sI (sI (sI (sI w a2 x1.toNatClampNeg x2) a5 x1.toNatClampNeg (0 : Int32)) a8 x1.toNatClampNeg (0 : Int32)) a11 x1.toNatClampNeg (vp_nar .boolean (0 : Int32))) a14 x1.toNatClampNeg (0 : Int32)) a20 (((60 : Int32) * x2) + (wI (sI (sI (sI (sI (sI w a2 x1.toNatClampNeg x2) a5 x1.toNatClampNeg (0 : Int32)) a8 x1.toNatClampNeg (0 : Int32)) a11 x1.toNatClampNeg (vp_nar .boolean (0 : Int32))) a14 x1.toNatClampNeg (0 : Int32)) a17 x2.toNatClampNeg)).toNatClampNeg x1) a23) ∧ (Q (sI (sI (sI (sI (sI (sI (sI w a2 x1.toNatClampNeg x2) a5 x1.toNatClampNeg (0 : Int32)) a8 x1.toNatClampNeg (0 : Int32)) a11 x1.toNatClampNeg (vp_nar .boolean (0 : Int32))) a14 x1.toNatClampNeg (0 : Int32)) a20 (((60 : Int32) * x2) + (wI (sI (sI (sI (sI (sI w a2 x1.toNatClampNeg x2) a5 x1.toNatClampNeg (0 : Int32)) a8 x1.toNatClampNeg (0 : Int32)) a11 x1.toNatClampNeg (vp_nar .boolean (0 : Int32))) a14 x1.toNatClampNeg (0 : Int32)) a17 x2.toNatClampNeg)).toNatClampNeg x1) a23 x2.toNatClampNeg ((wI (sI (sI (sI (sI (sI (sI w a2 x1.toNatClampNeg x2) a5 x1.toNatClampNeg (0 : Int32)) a8 x1.toNatClampNeg (0 : Int32)) a11 x1.toNatClampNeg (vp_nar .boolean (0 : Int32))) a14 x1.toNatClampNeg (0 : Int32)) a20 (((60 : Int32) * x2) + (wI (sI (sI (sI (sI (sI w a2 x1.toNatClampNeg x2) a5 x1.toNatClampNeg (0 : Int32)) a8 x1.toNatClampNeg (0 : Int32)) a11 x1.toNatClampNeg (vp_nar .boolean (0 : Int32))) a14 x1.toNatClampNeg (0 : Int32)) a17 x2.toNatClampNeg)).toNatClampNeg x1) a23 x2.toNatClampNeg) + (1 : Int32)))))))))))))))))))))))))))))
set_option maxHeartbeats 4000000 in
set_option maxRecDepth 100000 in
theorem k_Mo_come_0 {p : Program} {l : Launch} {e : Env} {s : State} {m : MethodId} {args : Array Value} {below : List Frame} {meth : Method} {c : Code} {D : va_G} {AC : Nat → ClassId} {e0 mi : Nat} {A : Nat → Prop} {mc ms : Nat} {Q : Wd → Prop} (C : Cx p l s m args meth c D AC e0 mi A n_Mo_come b_Mo_come 3 none) (x0 : Nat) (x1 : Int32) (x2 : Int32) (w : Wd) (hq : wp_Mo_come e0 mi x0 x1 x2 w Q) : ∀ (H : Heap) (locs : List Loc) (cells slots : Nat) (ls : Array Slot), HW D cls8 FTc AC A s.heap H locs w → lv_has ls 3 [(0, va_rf (some x0)), (1, .int x1), (2, .int x2)] → cells ≤ mc → slots ≤ ms → W p l e { frames := 0, cells := mc, slots := ms, locals := 0 } s m args below meth c H locs cells slots (vx_MQ below (QQ D AC A (fun v w9 => v = none ∧ Q w9)) (XX D AC A (fun _ _ => False)) args s mc ms A) (F0 m 0 ls []) := by
  obtain ⟨hl0, hx, hb, hr, ht, hown, hlocks, hnm, hml, hex, hK, hA, hZ, hV⟩ := id C
  intro H locs cells slots ls hW hl hc hs
  unfold wp_Mo_come at hq
  refine bw_aload_n hx hb d_Mo_come_0 rfl (lv_at hl 0 rfl) ?_
  obtain ⟨t1, hq⟩ := hq
  refine bw_getR hx hb ht in_Mo hown hK hW rfl t1 (by decide) rfl 14 (by decide) rfl (ht _ m_758) (fun _ h => h) d_Mo_come_1 ?_
  refine lv_iload_n hx hb d_Mo_come_4 rfl (lv_at hl 1 rfl) ?_
  refine lv_iload_n hx hb d_Mo_come_5 rfl (lv_at hl 2 rfl) ?_
  obtain ⟨a2, ea2, hq⟩ := hq
  obtain ⟨t3, hq⟩ := hq
  obtain ⟨h4, hq⟩ := hq
  refine bw_iast C hW ea2 t3 h4 d_Mo_come_6 (fun H locs hW => ?_)
  refine bw_aload_n hx hb d_Mo_come_7 rfl (lv_at hl 0 rfl) ?_
  refine bw_getR hx hb ht in_Mo hown hK hW rfl t1 (by decide) rfl 15 (by decide) rfl (ht _ m_759) (fun _ h => h) d_Mo_come_8 ?_
  refine lv_iload_n hx hb d_Mo_come_11 rfl (lv_at hl 1 rfl) ?_
  refine lv_iconst (v := 0) hx hb d_Mo_come_12 (by decide) ?_
  obtain ⟨a5, ea5, hq⟩ := hq
  obtain ⟨t6, hq⟩ := hq
  obtain ⟨h7, hq⟩ := hq
  refine bw_iast C hW ea5 t6 h7 d_Mo_come_13 (fun H locs hW => ?_)
  refine bw_aload_n hx hb d_Mo_come_14 rfl (lv_at hl 0 rfl) ?_
  refine bw_getR hx hb ht in_Mo hown hK hW rfl t1 (by decide) rfl 17 (by decide) rfl (ht _ m_761) (fun _ h => h) d_Mo_come_15 ?_
  refine lv_iload_n hx hb d_Mo_come_18 rfl (lv_at hl 1 rfl) ?_
  refine lv_iconst (v := 0) hx hb d_Mo_come_19 (by decide) ?_
  obtain ⟨a8, ea8, hq⟩ := hq
  obtain ⟨t9, hq⟩ := hq
  obtain ⟨h10, hq⟩ := hq
  refine bw_iast C hW ea8 t9 h10 d_Mo_come_20 (fun H locs hW => ?_)
  refine bw_aload_n hx hb d_Mo_come_21 rfl (lv_at hl 0 rfl) ?_
  refine bw_getR hx hb ht in_Mo hown hK hW rfl t1 (by decide) rfl 18 (by decide) rfl (ht _ m_762) (fun _ h => h) d_Mo_come_22 ?_
  refine lv_iload_n hx hb d_Mo_come_25 rfl (lv_at hl 1 rfl) ?_
  refine lv_iconst (v := 0) hx hb d_Mo_come_26 (by decide) ?_
  obtain ⟨a11, ea11, hq⟩ := hq
  obtain ⟨t12, hq⟩ := hq
  obtain ⟨h13, hq⟩ := hq
  refine bw_zast C hW ea11 t12 h13 d_Mo_come_27 (fun H locs hW => ?_)
  refine bw_aload_n hx hb d_Mo_come_28 rfl (lv_at hl 0 rfl) ?_
  refine bw_getR hx hb ht in_Mo hown hK hW rfl t1 (by decide) rfl 19 (by decide) rfl (ht _ m_763) (fun _ h => h) d_Mo_come_29 ?_
  refine lv_iload_n hx hb d_Mo_come_32 rfl (lv_at hl 1 rfl) ?_
  refine lv_iconst (v := 0) hx hb d_Mo_come_33 (by decide) ?_
  obtain ⟨a14, ea14, hq⟩ := hq
  obtain ⟨t15, hq⟩ := hq
  obtain ⟨h16, hq⟩ := hq
  refine bw_iast C hW ea14 t15 h16 d_Mo_come_34 (fun H locs hW => ?_)
  refine bw_aload_n hx hb d_Mo_come_35 rfl (lv_at hl 0 rfl) ?_
  refine bw_getR hx hb ht in_Mo hown hK hW rfl t1 (by decide) rfl 11 (by decide) rfl (ht _ m_755) (fun _ h => h) d_Mo_come_36 ?_
  refine lv_bipush (v := 60) hx hb d_Mo_come_39 (by decide) ?_
  refine lv_iload_n hx hb d_Mo_come_41 rfl (lv_at hl 2 rfl) ?_
  refine lv_imul hx hb d_Mo_come_42 ?_
  refine bw_aload_n hx hb d_Mo_come_43 rfl (lv_at hl 0 rfl) ?_
  refine bw_getR hx hb ht in_Mo hown hK hW rfl t1 (by decide) rfl 10 (by decide) rfl (ht _ m_754) (fun _ h => h) d_Mo_come_44 ?_
  refine lv_iload_n hx hb d_Mo_come_47 rfl (lv_at hl 2 rfl) ?_
  obtain ⟨a17, ea17, hq⟩ := hq
  obtain ⟨t18, hq⟩ := hq
  obtain ⟨h19, hq⟩ := hq
  refine bw_iald C hW ea17 t18 h19 d_Mo_come_48 ?_
  refine lv_iadd hx hb d_Mo_come_49 ?_
  refine lv_iload_n hx hb d_Mo_come_50 rfl (lv_at hl 1 rfl) ?_
  obtain ⟨a20, ea20, hq⟩ := hq
  obtain ⟨t21, hq⟩ := hq
  obtain ⟨h22, hq⟩ := hq
  refine bw_iast C hW ea20 t21 h22 d_Mo_come_51 (fun H locs hW => ?_)
  refine bw_aload_n hx hb d_Mo_come_52 rfl (lv_at hl 0 rfl) ?_
  refine bw_getR hx hb ht in_Mo hown hK hW rfl t1 (by decide) rfl 10 (by decide) rfl (ht _ m_754) (fun _ h => h) d_Mo_come_53 ?_
  refine lv_iload_n hx hb d_Mo_come_56 rfl (lv_at hl 2 rfl) ?_
  refine lv_dup2_11 hx hb d_Mo_come_57 rfl (bw_cat _) ?_
  obtain ⟨a23, ea23, hq⟩ := hq
  obtain ⟨t24, hq⟩ := hq
  obtain ⟨h25, hq⟩ := hq
  refine bw_iald C hW ea23 t24 h25 d_Mo_come_58 ?_
  refine lv_iconst (v := 1) hx hb d_Mo_come_59 (by decide) ?_
  refine lv_iadd hx hb d_Mo_come_60 ?_
  obtain ⟨h26, hq⟩ := hq
  refine bw_iast C hW ea23 t24 h26 d_Mo_come_61 (fun H locs hW => ?_)
  exact bw_vret C hW ⟨rfl, hq⟩ d_Mo_come_62 hc hs
theorem ci_Mo_come : CI n_Mo_come b_Mo_come 3 none 2 := ⟨m_890, m_5, by decide, by decide, by decide +kernel⟩
theorem sel_Mo_come : Cond.selects "BeltRowsModel" n_Mo_come n_Mo_come ∈ TBL := List.mem_filter.mpr ⟨List.mem_append_left _ (List.mem_map.mpr ⟨(n_Mo_come, 32), by decide +kernel, rfl⟩), rfl⟩
theorem c_Mo_come {l : Launch} {D : va_G} {AC : Nat → ClassId} {e0 mi : Nat} {Q : Wd → Prop} (hl0 : l.stackTraces = false) (x0 : Nat) (x1 : Int32) (x2 : Int32) (w : Wd) (hq : wp_Mo_come e0 mi x0 x1 x2 w Q) : Ct l D AC e0 mi n_Mo_come (wy n_Mo_come b_Mo_come 3 none) 0 0 [va_rf (some x0), .int x1, .int x2] w 0 0 (fun v w9 => v = none ∧ Q w9) (fun _ _ => False) :=
  Ct.of hl0 (by decide) (by simp [lg_sl, bw_cat, cat_i, cat_j]) (fun p e s m args below meth c A ls C hW hl => k_Mo_come_0 C x0 x1 x2 w hq s.heap [] 0 0 ls hW (by simpa [lv_args, bw_cat, cat_i, cat_j] using hl) (Nat.le_refl _) (Nat.le_refl _))
def wb_Mo_item_42 (e0 mi : Nat) (Q : Int32 → Wd → Prop) (x0 : Nat) (x1 : Int32) (x2 : Int32) (z0 : Option Nat) (z1 : Int32) (w : Wd) : Prop :=
  ∃ a1 : Nat, z0 = some a1 ∧ (bw_is w a1 6 ∧ (bw_is (sI w a1 0 z1) x0 6 ∧ (((wI (sI w a1 0 z1) x0 0) ≤ 0 → (wp_Mo_missing e0 mi x0 x1 (sI w a1 0 z1) (fun i11 w6 => (i11 ≤ 0 → (bw_is w6 x0 6 ∧ (∃ a14 : Nat, (wR (sI w6 x0 12 ((wI w6 x0 12) + (1 : Int32))) x0 16) = some a14 ∧ (bw_is (sI w6 x0 12 ((wI w6 x0 12) + (1 : Int32))) a14 101 ∧ (vp_in (wI (sI w6 x0 12 ((wI w6 x0 12) + (1 : Int32))) x0 12) (wN (sI w6 x0 12 ((wI w6 x0 12) + (1 : Int32))) a14) ∧ (∃ a17 : Nat, (wR (sI (sI w6 x0 12 ((wI w6 x0 12) + (1 : Int32))) a14 (wI (sI w6 x0 12 ((wI w6 x0 12) + (1 : Int32))) x0 12).toNatClampNeg x2) x0 13) = some a17 ∧ (bw_is (sI (sI w6 x0 12 ((wI w6 x0 12) + (1 : Int32))) a14 (wI (sI w6 x0 12 ((wI w6 x0 12) + (1 : Int32))) x0 12).toNatClampNeg x2) a17 101 ∧ (vp_in (wI (sI (sI w6 x0 12 ((wI w6 x0 12) + (1 : Int32))) a14 (wI (sI w6 x0 12 ((wI w6 x0 12) + (1 : Int32))) x0 12).toNatClampNeg x2) x0 12) (wN (sI (sI w6 x0 12 ((wI w6 x0 12) + (1 : Int32))) a14 (wI (sI w6 x0 12 ((wI w6 x0 12) + (1 : Int32))) x0 12).toNatClampNeg x2) a17) ∧ (∃ a20 : Nat, (wR (sI (sI (sI w6 x0 12 ((wI w6 x0 12) + (1 : Int32))) a14 (wI (sI w6 x0 12 ((wI w6 x0 12) + (1 : Int32))) x0 12).toNatClampNeg x2) a17 (wI (sI (sI w6 x0 12 ((wI w6 x0 12) + (1 : Int32))) a14 (wI (sI w6 x0 12 ((wI w6 x0 12) + (1 : Int32))) x0 12).toNatClampNeg x2) x0 12).toNatClampNeg (0 : Int32)) x0 20) = some a20 ∧ (bw_is (sI (sI (sI w6 x0 12 ((wI w6 x0 12) + (1 : Int32))) a14 (wI (sI w6 x0 12 ((wI w6 x0 12) + (1 : Int32))) x0 12).toNatClampNeg x2) a17 (wI (sI (sI w6 x0 12 ((wI w6 x0 12) + (1 : Int32))) a14 (wI (sI w6 x0 12 ((wI w6 x0 12) + (1 : Int32))) x0 12).toNatClampNeg x2) x0 12).toNatClampNeg (0 : Int32)) a20 101 ∧ (vp_in (wI (sI (sI (sI w6 x0 12 ((wI w6 x0 12) + (1 : Int32))) a14 (wI (sI w6 x0 12 ((wI w6 x0 12) + (1 : Int32))) x0 12).toNatClampNeg x2) a17 (wI (sI (sI w6 x0 12 ((wI w6 x0 12) + (1 : Int32))) a14 (wI (sI w6 x0 12 ((wI w6 x0 12) + (1 : Int32))) x0 12).toNatClampNeg x2) x0 12).toNatClampNeg (0 : Int32)) x0 12) (wN (sI (sI (sI w6 x0 12 ((wI w6 x0 12) + (1 : Int32))) a14 (wI (sI w6 x0 12 ((wI w6 x0 12) + (1 : Int32))) x0 12).toNatClampNeg x2) a17 (wI (sI (sI w6 x0 12 ((wI w6 x0 12) + (1 : Int32))) a14 (wI (sI w6 x0 12 ((wI w6 x0 12) + (1 : Int32))) x0 12).toNatClampNeg x2) x0 12).toNatClampNeg (0 : Int32)) a20) ∧ (wp_Mo_come e0 mi x0 (wI (sI (sI (sI (sI w6 x0 12 ((wI w6 x0 12) + (1 : Int32))) a14 (wI (sI w6 x0 12 ((wI w6 x0 12) + (1 : Int32))) x0 12).toNatClampNeg x2) a17 (wI (sI (sI w6 x0 12 ((wI w6 x0 12) + (1 : Int32))) a14 (wI (sI w6 x0 12 ((wI w6 x0 12) + (1 : Int32))) x0 12).toNatClampNeg x2) x0 12).toNatClampNeg (0 : Int32)) a20 (wI (sI (sI (sI w6 x0 12 ((wI w6 x0 12) + (1 : Int32))) a14 (wI (sI w6 x0 12 ((wI w6 x0 12) + (1 : Int32))) x0 12).toNatClampNeg x2) a17 (wI (sI (sI w6 x0 12 ((wI w6 x0 12) + (1 : Int32))) a14 (wI (sI w6 x0 12 ((wI w6 x0 12) + (1 : Int32))) x0 12).toNatClampNeg x2) x0 12).toNatClampNeg (0 : Int32)) x0 12).toNatClampNeg (wI (sI (sI (sI w6 x0 12 ((wI w6 x0 12) + (1 : Int32))) a14 (wI (sI w6 x0 12 ((wI w6 x0 12) + (1 : Int32))) x0 12).toNatClampNeg x2) a17 (wI (sI (sI w6 x0 12 ((wI w6 x0 12) + (1 : Int32))) a14 (wI (sI w6 x0 12 ((wI w6 x0 12) + (1 : Int32))) x0 12).toNatClampNeg x2) x0 12).toNatClampNeg (0 : Int32)) x0 1)) x0 12) x1 (sI (sI (sI (sI w6 x0 12 ((wI w6 x0 12) + (1 : Int32))) a14 (wI (sI w6 x0 12 ((wI w6 x0 12) + (1 : Int32))) x0 12).toNatClampNeg x2) a17 (wI (sI (sI w6 x0 12 ((wI w6 x0 12) + (1 : Int32))) a14 (wI (sI w6 x0 12 ((wI w6 x0 12) + (1 : Int32))) x0 12).toNatClampNeg x2) x0 12).toNatClampNeg (0 : Int32)) a20 (wI (sI (sI (sI w6 x0 12 ((wI w6 x0 12) + (1 : Int32))) a14 (wI (sI w6 x0 12 ((wI w6 x0 12) + (1 : Int32))) x0 12).toNatClampNeg x2) a17 (wI (sI (sI w6 x0 12 ((wI w6 x0 12) + (1 : Int32))) a14 (wI (sI w6 x0 12 ((wI w6 x0 12) + (1 : Int32))) x0 12).toNatClampNeg x2) x0 12).toNatClampNeg (0 : Int32)) x0 12).toNatClampNeg (wI (sI (sI (sI w6 x0 12 ((wI w6 x0 12) + (1 : Int32))) a14 (wI (sI w6 x0 12 ((wI w6 x0 12) + (1 : Int32))) x0 12).toNatClampNeg x2) a17 (wI (sI (sI w6 x0 12 ((wI w6 x0 12) + (1 : Int32))) a14 (wI (sI w6 x0 12 ((wI w6 x0 12) + (1 : Int32))) x0 12).toNatClampNeg x2) x0 12).toNatClampNeg (0 : Int32)) x0 1)) (fun w24 => bw_is w24 x0 6 ∧ (Q (wI w24 x0 12) w24)))))))))))))) ∧ (¬ i11 ≤ 0 → (bw_is w6 x0 6 ∧ (wp_Mo_missing e0 mi x0 x1 w6 (fun i38 w33 => Q (-i38) w33))))))) ∧ (¬ (wI (sI w a1 0 z1) x0 0) ≤ 0 → (Q (0 : Int32) (sI w a1 0 z1))))))
set_option maxHeartbeats 4000000 in
set_option maxRecDepth 100000 in
theorem k_Mo_item_42 {p : Program} {l : Launch} {e : Env} {s : State} {m : MethodId} {args : Array Value} {below : List Frame} {meth : Method} {c : Code} {D : va_G} {AC : Nat → ClassId} {e0 mi : Nat} {A : Nat → Prop} {mc ms : Nat} {Q : Int32 → Wd → Prop} (C : Cx p l s m args meth c D AC e0 mi A n_Mo_item b_Mo_item 3 (some .int)) (x0 : Nat) (x1 : Int32) (x2 : Int32) (z0 : Option Nat) (z1 : Int32) (w : Wd) (hq : wb_Mo_item_42 e0 mi Q x0 x1 x2 z0 z1 w) : ∀ (H : Heap) (locs : List Loc) (cells slots : Nat) (ls : Array Slot), HW D cls8 FTc AC A s.heap H locs w → lv_has ls 3 [(0, va_rf (some x0)), (1, .int x1), (2, .int x2)] → cells ≤ mc → slots ≤ ms → W p l e { frames := 2, cells := mc, slots := ms, locals := 43 } s m args below meth c H locs cells slots (vx_MQ below (QQ D AC A (fun v w9 => ∃ r9 : Int32, v = some (.int r9) ∧ Q r9 w9)) (XX D AC A (fun _ _ => False)) args s mc ms A) (F0 m 42 ls [.int z1, va_rf z0]) := by
  obtain ⟨hl0, hx, hb, hr, ht, hown, hlocks, hnm, hml, hex, hK, hA, hZ, hV⟩ := id C
  intro H locs cells slots ls hW hl hc hs
  unfold wb_Mo_item_42 at hq
  obtain ⟨a1, ea1, hq⟩ := hq
  obtain ⟨t2, hq⟩ := hq
  refine bw_putI hx hb ht in_Mo y_Mo yk_Mo nm_Mo hown hK hW ea1 t2 (by decide) rfl 0 (by decide) rfl (ht _ m_744) (fun _ h => h) (Or.inl rfl) rfl rfl d_Mo_item_42 (fun H locs hW => ?_)
  refine bw_aload_n hx hb d_Mo_item_45 rfl (lv_at hl 0 rfl) ?_
  obtain ⟨t3, hq⟩ := hq
  refine bw_getI hx hb ht in_Mo hown hK hW rfl t3 (by decide) rfl 0 (by decide) rfl (ht _ m_744) (fun _ h => h) d_Mo_item_46 ?_
  refine lv_if_le (tgt := 54) hx hb d_Mo_item_49 (by decide) (fun c4 => ?_) (fun c4 => ?_)
  · have hq := hq.1 c4
    refine bw_aload_n hx hb d_Mo_item_54 rfl (lv_at hl 0 rfl) ?_
    refine lv_iload_n hx hb d_Mo_item_55 rfl (lv_at hl 1 rfl) ?_
    refine bw_callV (As := [.int x1]) (rest := []) C hW ci_Mo_missing m_875 m_877 sel_Mo_missing d_Mo_item_56 rfl t3 (by decide) rfl rfl rfl hl.1 (by decide) ⟨Nat.le_of_ble_eq_true rfl, Nat.le_of_ble_eq_true rfl⟩ ⟨hc, hs⟩ (c_Mo_missing hl0 _ _ _ hq) (fun _ _ _ _ _ _ h => h.elim) (fun v5 w6 H locs hv hW => ?_)
    obtain ⟨i11, rfl, hq⟩ := hv
    refine W.eq (g2 := F0 m 59 ls [.int i11]) rfl ?_
    refine lv_if_le (tgt := 69) hx hb d_Mo_item_59 (by decide) (fun c12 => ?_) (fun c12 => ?_)
    · have hq := hq.1 c12
      refine bw_aload_n hx hb d_Mo_item_69 rfl (lv_at hl 0 rfl) ?_
      refine lv_dup hx hb d_Mo_item_70 (bw_cat _) ?_
      obtain ⟨t13, hq⟩ := hq
      refine bw_getI hx hb ht in_Mo hown hK hW rfl t13 (by decide) rfl 12 (by decide) rfl (ht _ m_756) (fun _ h => h) d_Mo_item_71 ?_
      refine lv_iconst (v := 1) hx hb d_Mo_item_74 (by decide) ?_
      refine lv_iadd hx hb d_Mo_item_75 ?_
      refine bw_putI hx hb ht in_Mo y_Mo yk_Mo nm_Mo hown hK hW rfl t13 (by decide) rfl 12 (by decide) rfl (ht _ m_756) (fun _ h => h) (Or.inl rfl) rfl rfl d_Mo_item_76 (fun H locs hW => ?_)
      refine bw_aload_n hx hb d_Mo_item_79 rfl (lv_at hl 0 rfl) ?_
      refine bw_getR hx hb ht in_Mo hown hK hW rfl t13 (by decide) rfl 16 (by decide) rfl (ht _ m_760) (fun _ h => h) d_Mo_item_80 ?_
      refine bw_aload_n hx hb d_Mo_item_83 rfl (lv_at hl 0 rfl) ?_
      refine bw_getI hx hb ht in_Mo hown hK hW rfl t13 (by decide) rfl 12 (by decide) rfl (ht _ m_756) (fun _ h => h) d_Mo_item_84 ?_
      refine lv_iload_n hx hb d_Mo_item_87 rfl (lv_at hl 2 rfl) ?_
      obtain ⟨a14, ea14, hq⟩ := hq
      obtain ⟨t15, hq⟩ := hq
      obtain ⟨h16, hq⟩ := hq
      refine bw_iast C hW ea14 t15 h16 d_Mo_item_88 (fun H locs hW => ?_)
      refine bw_aload_n hx hb d_Mo_item_89 rfl (lv_at hl 0 rfl) ?_
      refine bw_getR hx hb ht in_Mo hown hK hW rfl t13 (by decide) rfl 13 (by decide) rfl (ht _ m_757) (fun _ h => h) d_Mo_item_90 ?_
      refine bw_aload_n hx hb d_Mo_item_93 rfl (lv_at hl 0 rfl) ?_
      refine bw_getI hx hb ht in_Mo hown hK hW rfl t13 (by decide) rfl 12 (by decide) rfl (ht _ m_756) (fun _ h => h) d_Mo_item_94 ?_
      refine lv_iconst (v := 0) hx hb d_Mo_item_97 (by decide) ?_
      obtain ⟨a17, ea17, hq⟩ := hq
      obtain ⟨t18, hq⟩ := hq
      obtain ⟨h19, hq⟩ := hq
      refine bw_iast C hW ea17 t18 h19 d_Mo_item_98 (fun H locs hW => ?_)
      refine bw_aload_n hx hb d_Mo_item_99 rfl (lv_at hl 0 rfl) ?_
      refine bw_getR hx hb ht in_Mo hown hK hW rfl t13 (by decide) rfl 20 (by decide) rfl (ht _ m_764) (fun _ h => h) d_Mo_item_100 ?_
      refine bw_aload_n hx hb d_Mo_item_103 rfl (lv_at hl 0 rfl) ?_
      refine bw_getI hx hb ht in_Mo hown hK hW rfl t13 (by decide) rfl 12 (by decide) rfl (ht _ m_756) (fun _ h => h) d_Mo_item_104 ?_
      refine bw_aload_n hx hb d_Mo_item_107 rfl (lv_at hl 0 rfl) ?_
      refine bw_getI hx hb ht in_Mo hown hK hW rfl t13 (by decide) rfl 1 (by decide) rfl (ht _ m_745) (fun _ h => h) d_Mo_item_108 ?_
      obtain ⟨a20, ea20, hq⟩ := hq
      obtain ⟨t21, hq⟩ := hq
      obtain ⟨h22, hq⟩ := hq
      refine bw_iast C hW ea20 t21 h22 d_Mo_item_111 (fun H locs hW => ?_)
      refine bw_aload_n hx hb d_Mo_item_112 rfl (lv_at hl 0 rfl) ?_
      refine bw_aload_n hx hb d_Mo_item_113 rfl (lv_at hl 0 rfl) ?_
      refine bw_getI hx hb ht in_Mo hown hK hW rfl t13 (by decide) rfl 12 (by decide) rfl (ht _ m_756) (fun _ h => h) d_Mo_item_114 ?_
      refine lv_iload_n hx hb d_Mo_item_117 rfl (lv_at hl 1 rfl) ?_
      refine bw_callV (As := [.int (wI (sI (sI (sI (sI w6 x0 12 ((wI w6 x0 12) + (1 : Int32))) a14 (wI (sI w6 x0 12 ((wI w6 x0 12) + (1 : Int32))) x0 12).toNatClampNeg x2) a17 (wI (sI (sI w6 x0 12 ((wI w6 x0 12) + (1 : Int32))) a14 (wI (sI w6 x0 12 ((wI w6 x0 12) + (1 : Int32))) x0 12).toNatClampNeg x2) x0 12).toNatClampNeg (0 : Int32)) a20 (wI (sI (sI (sI w6 x0 12 ((wI w6 x0 12) + (1 : Int32))) a14 (wI (sI w6 x0 12 ((wI w6 x0 12) + (1 : Int32))) x0 12).toNatClampNeg x2) a17 (wI (sI (sI w6 x0 12 ((wI w6 x0 12) + (1 : Int32))) a14 (wI (sI w6 x0 12 ((wI w6 x0 12) + (1 : Int32))) x0 12).toNatClampNeg x2) x0 12).toNatClampNeg (0 : Int32)) x0 12).toNatClampNeg (wI (sI (sI (sI w6 x0 12 ((wI w6 x0 12) + (1 : Int32))) a14 (wI (sI w6 x0 12 ((wI w6 x0 12) + (1 : Int32))) x0 12).toNatClampNeg x2) a17 (wI (sI (sI w6 x0 12 ((wI w6 x0 12) + (1 : Int32))) a14 (wI (sI w6 x0 12 ((wI w6 x0 12) + (1 : Int32))) x0 12).toNatClampNeg x2) x0 12).toNatClampNeg (0 : Int32)) x0 1)) x0 12), .int x1]) (rest := []) C hW ci_Mo_come m_887 m_889 sel_Mo_come d_Mo_item_118 rfl t13 (by decide) rfl rfl rfl hl.1 (by decide) ⟨Nat.le_of_ble_eq_true rfl, Nat.le_of_ble_eq_true rfl⟩ ⟨hc, hs⟩ (c_Mo_come hl0 _ _ _ _ hq) (fun _ _ _ _ _ _ h => h.elim) (fun v23 w24 H locs hv hW => ?_)
      obtain ⟨rfl, hq⟩ := hv
      refine W.eq (g2 := F0 m 121 ls []) rfl ?_
      refine bw_aload_n hx hb d_Mo_item_121 rfl (lv_at hl 0 rfl) ?_
      obtain ⟨t30, hq⟩ := hq
      refine bw_getI hx hb ht in_Mo hown hK hW rfl t30 (by decide) rfl 12 (by decide) rfl (ht _ m_756) (fun _ h => h) d_Mo_item_122 ?_
      exact bw_iret C hW ⟨_, rfl, hq⟩ d_Mo_item_125 hc hs
    · have hq := hq.2 c12
      refine bw_aload_n hx hb d_Mo_item_62 rfl (lv_at hl 0 rfl) ?_
      refine lv_iload_n hx hb d_Mo_item_63 rfl (lv_at hl 1 rfl) ?_
      obtain ⟨t31, hq⟩ := hq
      refine bw_callV (As := [.int x1]) (rest := []) C hW ci_Mo_missing m_875 m_877 sel_Mo_missing d_Mo_item_64 rfl t31 (by decide) rfl rfl rfl hl.1 (by decide) ⟨Nat.le_of_ble_eq_true rfl, Nat.le_of_ble_eq_true rfl⟩ ⟨hc, hs⟩ (c_Mo_missing hl0 _ _ _ hq) (fun _ _ _ _ _ _ h => h.elim) (fun v32 w33 H locs hv hW => ?_)
      obtain ⟨i38, rfl, hq⟩ := hv
      refine W.eq (g2 := F0 m 67 ls [.int i38]) rfl ?_
      refine lv_ineg hx hb d_Mo_item_67 ?_
      exact bw_iret C hW ⟨_, rfl, hq⟩ d_Mo_item_68 hc hs
  · have hq := hq.2 c4
    refine lv_iconst (v := 0) hx hb d_Mo_item_52 (by decide) ?_
    exact bw_iret C hW ⟨_, rfl, hq⟩ d_Mo_item_53 hc hs
def wp_Mo_item (e0 mi : Nat) (x0 : Nat) (x1 : Int32) (x2 : Int32) (w : Wd) (Q : Int32 → Wd → Prop) : Prop :=
  bw_is w x0 6 ∧ (wp_Mo_isBelt e0 mi x0 x1 w (fun i8 w3 => (¬ i8 = 0 → (wp_Mo_in e0 mi x2 (1 : Int32) (2000 : Int32) w3 (fun i16 w11 => (¬ i16 = 0 → (bw_is w11 x0 6 ∧ ((¬ (wI w11 x0 12) = (60 : Int32) → (wb_Mo_item_42 e0 mi Q x0 x1 x2 (some x0) (0 : Int32) w11)) ∧ ((wI w11 x0 12) = (60 : Int32) → (wb_Mo_item_42 e0 mi Q x0 x1 x2 (some x0) (3 : Int32) w11))))) ∧ (i16 = 0 → (wb_Mo_item_42 e0 mi Q x0 x1 x2 (some x0) (2 : Int32) w11))))) ∧ (i8 = 0 → (wb_Mo_item_42 e0 mi Q x0 x1 x2 (some x0) (1 : Int32) w3))))
set_option maxHeartbeats 4000000 in
set_option maxRecDepth 100000 in
theorem k_Mo_item_0 {p : Program} {l : Launch} {e : Env} {s : State} {m : MethodId} {args : Array Value} {below : List Frame} {meth : Method} {c : Code} {D : va_G} {AC : Nat → ClassId} {e0 mi : Nat} {A : Nat → Prop} {mc ms : Nat} {Q : Int32 → Wd → Prop} (C : Cx p l s m args meth c D AC e0 mi A n_Mo_item b_Mo_item 3 (some .int)) (x0 : Nat) (x1 : Int32) (x2 : Int32) (w : Wd) (hq : wp_Mo_item e0 mi x0 x1 x2 w Q) : ∀ (H : Heap) (locs : List Loc) (cells slots : Nat) (ls : Array Slot), HW D cls8 FTc AC A s.heap H locs w → lv_has ls 3 [(0, va_rf (some x0)), (1, .int x1), (2, .int x2)] → cells ≤ mc → slots ≤ ms → W p l e { frames := 2, cells := mc, slots := ms, locals := 43 } s m args below meth c H locs cells slots (vx_MQ below (QQ D AC A (fun v w9 => ∃ r9 : Int32, v = some (.int r9) ∧ Q r9 w9)) (XX D AC A (fun _ _ => False)) args s mc ms A) (F0 m 0 ls []) := by
  obtain ⟨hl0, hx, hb, hr, ht, hown, hlocks, hnm, hml, hex, hK, hA, hZ, hV⟩ := id C
  intro H locs cells slots ls hW hl hc hs
  unfold wp_Mo_item at hq
  refine bw_aload_n hx hb d_Mo_item_0 rfl (lv_at hl 0 rfl) ?_
  refine bw_aload_n hx hb d_Mo_item_1 rfl (lv_at hl 0 rfl) ?_
  refine lv_iload_n hx hb d_Mo_item_2 rfl (lv_at hl 1 rfl) ?_
  obtain ⟨t1, hq⟩ := hq
  refine bw_callV (As := [.int x1]) (rest := [va_rf (some x0)]) C hW ci_Mo_isBelt m_855 m_857 sel_Mo_isBelt d_Mo_item_3 rfl t1 (by decide) rfl rfl rfl hl.1 (by simp [bw_cat, cat_i, cat_j]) ⟨Nat.le_of_ble_eq_true rfl, Nat.le_of_ble_eq_true rfl⟩ ⟨hc, hs⟩ (c_Mo_isBelt hl0 _ _ _ hq) (fun _ _ _ _ _ _ h => h.elim) (fun v2 w3 H locs hv hW => ?_)
  obtain ⟨i8, rfl, hq⟩ := hv
  refine W.eq (g2 := F0 m 6 ls [.int i8, va_rf (some x0)]) rfl ?_
  refine lv_if_ne (tgt := 13) hx hb d_Mo_item_6 (by decide) (fun c9 => ?_) (fun c9 => ?_)
  · have hq := hq.1 c9
    refine lv_iload_n hx hb d_Mo_item_13 rfl (lv_at hl 2 rfl) ?_
    refine lv_iconst (v := 1) hx hb d_Mo_item_14 (by decide) ?_
    refine lv_sipush (v := 2000) hx hb d_Mo_item_15 (by decide) ?_
    refine bw_callS (As := [.int x2, .int (1 : Int32), .int (2000 : Int32)]) (rest := [va_rf (some x0)]) C hW ci_Mo_in m_848 m_849 d_Mo_item_18 rfl rfl hl.1 (by simp [bw_cat, cat_i, cat_j]) ⟨Nat.le_of_ble_eq_true rfl, Nat.le_of_ble_eq_true rfl⟩ ⟨hc, hs⟩ (c_Mo_in hl0 _ _ _ _ hq) (fun _ _ _ _ _ _ h => h.elim) (fun v10 w11 H locs hv hW => ?_)
    obtain ⟨i16, rfl, hq⟩ := hv
    refine W.eq (g2 := F0 m 21 ls [.int i16, va_rf (some x0)]) rfl ?_
    refine lv_if_ne (tgt := 28) hx hb d_Mo_item_21 (by decide) (fun c17 => ?_) (fun c17 => ?_)
    · have hq := hq.1 c17
      refine bw_aload_n hx hb d_Mo_item_28 rfl (lv_at hl 0 rfl) ?_
      obtain ⟨t18, hq⟩ := hq
      refine bw_getI hx hb ht in_Mo hown hK hW rfl t18 (by decide) rfl 12 (by decide) rfl (ht _ m_756) (fun _ h => h) d_Mo_item_29 ?_
      refine lv_bipush (v := 60) hx hb d_Mo_item_32 (by decide) ?_
      refine lv_icmp_ne (tgt := 41) hx hb d_Mo_item_34 (by decide) (fun c19 => ?_) (fun c19 => ?_)
      · have hq := hq.1 c19
        refine lv_iconst (v := 0) hx hb d_Mo_item_41 (by decide) ?_
        exact k_Mo_item_42 C  _ _ _ _ _ _ hq _ _ _ _ _ hW (lv_sub hl [0, 1, 2] rfl) hc hs
      · have hq := hq.2 c19
        refine lv_iconst (v := 3) hx hb d_Mo_item_37 (by decide) ?_
        refine lv_goto (tgt := 42) hx hb d_Mo_item_38 (by decide) ?_
        exact k_Mo_item_42 C  _ _ _ _ _ _ hq _ _ _ _ _ hW (lv_sub hl [0, 1, 2] rfl) hc hs
    · have hq := hq.2 c17
      refine lv_iconst (v := 2) hx hb d_Mo_item_24 (by decide) ?_
      refine lv_goto (tgt := 42) hx hb d_Mo_item_25 (by decide) ?_
      exact k_Mo_item_42 C  _ _ _ _ _ _ hq _ _ _ _ _ hW (lv_sub hl [0, 1, 2] rfl) hc hs
  · have hq := hq.2 c9
    refine lv_iconst (v := 1) hx hb d_Mo_item_9 (by decide) ?_
    refine lv_goto (tgt := 42) hx hb d_Mo_item_10 (by decide) ?_
    exact k_Mo_item_42 C  _ _ _ _ _ _ hq _ _ _ _ _ hW (lv_sub hl [0, 1, 2] rfl) hc hs
theorem ci_Mo_item : CI n_Mo_item b_Mo_item 3 (some .int) 2 := ⟨m_874, m_5, by decide, by decide, by decide +kernel⟩
theorem c_Mo_item {l : Launch} {D : va_G} {AC : Nat → ClassId} {e0 mi : Nat} {Q : Int32 → Wd → Prop} (hl0 : l.stackTraces = false) (x0 : Nat) (x1 : Int32) (x2 : Int32) (w : Wd) (hq : wp_Mo_item e0 mi x0 x1 x2 w Q) : Ct l D AC e0 mi n_Mo_item (wy n_Mo_item b_Mo_item 3 (some .int)) 2 43 [va_rf (some x0), .int x1, .int x2] w 0 0 (fun v w9 => ∃ r9 : Int32, v = some (.int r9) ∧ Q r9 w9) (fun _ _ => False) :=
  Ct.of hl0 (by decide) (by simp [lg_sl, bw_cat, cat_i, cat_j]) (fun p e s m args below meth c A ls C hW hl => k_Mo_item_0 C x0 x1 x2 w hq s.heap [] 0 0 ls hW (by simpa [lv_args, bw_cat, cat_i, cat_j] using hl) (Nat.le_refl _) (Nat.le_refl _))
def wp_Mo_isItem (e0 mi : Nat) (x0 : Nat) (x1 : Int32) (w : Wd) (Q : Int32 → Wd → Prop) : Prop :=
  bw_is w x0 6 ∧ (wp_Mo_in e0 mi x1 (1 : Int32) (wI w x0 12) w (fun i8 w3 => bw_b i8 ∧ Q i8 w3))
set_option maxHeartbeats 4000000 in
set_option maxRecDepth 100000 in
theorem k_Mo_isItem_0 {p : Program} {l : Launch} {e : Env} {s : State} {m : MethodId} {args : Array Value} {below : List Frame} {meth : Method} {c : Code} {D : va_G} {AC : Nat → ClassId} {e0 mi : Nat} {A : Nat → Prop} {mc ms : Nat} {Q : Int32 → Wd → Prop} (C : Cx p l s m args meth c D AC e0 mi A n_Mo_isItem b_Mo_isItem 2 (some .boolean)) (x0 : Nat) (x1 : Int32) (w : Wd) (hq : wp_Mo_isItem e0 mi x0 x1 w Q) : ∀ (H : Heap) (locs : List Loc) (cells slots : Nat) (ls : Array Slot), HW D cls8 FTc AC A s.heap H locs w → lv_has ls 2 [(0, va_rf (some x0)), (1, .int x1)] → cells ≤ mc → slots ≤ ms → W p l e { frames := 1, cells := mc, slots := ms, locals := 22 } s m args below meth c H locs cells slots (vx_MQ below (QQ D AC A (fun v w9 => ∃ r9 : Int32, v = some (.int r9) ∧ Q r9 w9)) (XX D AC A (fun _ _ => False)) args s mc ms A) (F0 m 0 ls []) := by
  obtain ⟨hl0, hx, hb, hr, ht, hown, hlocks, hnm, hml, hex, hK, hA, hZ, hV⟩ := id C
  intro H locs cells slots ls hW hl hc hs
  unfold wp_Mo_isItem at hq
  refine lv_iload_n hx hb d_Mo_isItem_0 rfl (lv_at hl 1 rfl) ?_
  refine lv_iconst (v := 1) hx hb d_Mo_isItem_1 (by decide) ?_
  refine bw_aload_n hx hb d_Mo_isItem_2 rfl (lv_at hl 0 rfl) ?_
  obtain ⟨t1, hq⟩ := hq
  refine bw_getI hx hb ht in_Mo hown hK hW rfl t1 (by decide) rfl 12 (by decide) rfl (ht _ m_756) (fun _ h => h) d_Mo_isItem_3 ?_
  refine bw_callS (As := [.int x1, .int (1 : Int32), .int (wI w x0 12)]) (rest := []) C hW ci_Mo_in m_848 m_849 d_Mo_isItem_6 rfl rfl hl.1 (by decide) ⟨Nat.le_of_ble_eq_true rfl, Nat.le_of_ble_eq_true rfl⟩ ⟨hc, hs⟩ (c_Mo_in hl0 _ _ _ _ hq) (fun _ _ _ _ _ _ h => h.elim) (fun v2 w3 H locs hv hW => ?_)
  obtain ⟨i8, rfl, hq⟩ := hv
  refine W.eq (g2 := F0 m 9 ls [.int i8]) rfl ?_
  obtain ⟨h9, hq⟩ := hq
  exact bw_zret C hW (bw_bn h9) ⟨_, rfl, hq⟩ d_Mo_isItem_9 hc hs
theorem ci_Mo_isItem : CI n_Mo_isItem b_Mo_isItem 2 (some .boolean) 1 := ⟨m_898, m_5, by decide, by decide, by decide +kernel⟩
theorem sel_Mo_isItem : Cond.selects "BeltRowsModel" n_Mo_isItem n_Mo_isItem ∈ TBL := List.mem_filter.mpr ⟨List.mem_append_left _ (List.mem_map.mpr ⟨(n_Mo_isItem, 32), by decide +kernel, rfl⟩), rfl⟩
theorem c_Mo_isItem {l : Launch} {D : va_G} {AC : Nat → ClassId} {e0 mi : Nat} {Q : Int32 → Wd → Prop} (hl0 : l.stackTraces = false) (x0 : Nat) (x1 : Int32) (w : Wd) (hq : wp_Mo_isItem e0 mi x0 x1 w Q) : Ct l D AC e0 mi n_Mo_isItem (wy n_Mo_isItem b_Mo_isItem 2 (some .boolean)) 1 22 [va_rf (some x0), .int x1] w 0 0 (fun v w9 => ∃ r9 : Int32, v = some (.int r9) ∧ Q r9 w9) (fun _ _ => False) :=
  Ct.of hl0 (by decide) (by simp [lg_sl, bw_cat, cat_i, cat_j]) (fun p e s m args below meth c A ls C hW hl => k_Mo_isItem_0 C x0 x1 w hq s.heap [] 0 0 ls hW (by simpa [lv_args, bw_cat, cat_i, cat_j] using hl) (Nat.le_refl _) (Nat.le_refl _))
def wb_Mo_divert_94 (e0 mi : Nat) (Q : Int32 → Wd → Prop) (x0 : Nat) (x1 : Int32) (x2 : Int32) (x3 : Int32) (z0 : Int32) (w : Wd) : Prop :=
  Q z0 w
set_option maxHeartbeats 4000000 in
set_option maxRecDepth 100000 in
theorem k_Mo_divert_94 {p : Program} {l : Launch} {e : Env} {s : State} {m : MethodId} {args : Array Value} {below : List Frame} {meth : Method} {c : Code} {D : va_G} {AC : Nat → ClassId} {e0 mi : Nat} {A : Nat → Prop} {mc ms : Nat} {Q : Int32 → Wd → Prop} (C : Cx p l s m args meth c D AC e0 mi A n_Mo_divert b_Mo_divert 4 (some .int)) (x0 : Nat) (x1 : Int32) (x2 : Int32) (x3 : Int32) (z0 : Int32) (w : Wd) (hq : wb_Mo_divert_94 e0 mi Q x0 x1 x2 x3 z0 w) : ∀ (H : Heap) (locs : List Loc) (cells slots : Nat) (ls : Array Slot), HW D cls8 FTc AC A s.heap H locs w → lv_has ls 4 [(0, va_rf (some x0)), (1, .int x1), (2, .int x2), (3, .int x3)] → cells ≤ mc → slots ≤ ms → W p l e { frames := 2, cells := mc, slots := ms, locals := 43 } s m args below meth c H locs cells slots (vx_MQ below (QQ D AC A (fun v w9 => ∃ r9 : Int32, v = some (.int r9) ∧ Q r9 w9)) (XX D AC A (fun _ _ => False)) args s mc ms A) (F0 m 94 ls [.int z0]) := by
  obtain ⟨hl0, hx, hb, hr, ht, hown, hlocks, hnm, hml, hex, hK, hA, hZ, hV⟩ := id C
  intro H locs cells slots ls hW hl hc hs
  unfold wb_Mo_divert_94 at hq
  exact bw_iret C hW ⟨_, rfl, hq⟩ d_Mo_divert_94 hc hs
def wb_Mo_divert_55 (e0 mi : Nat) (Q : Int32 → Wd → Prop) (x0 : Nat) (x1 : Int32) (x2 : Int32) (w : Wd) : Prop :=
  bw_is w x0 6 ∧ (((wI w x0 0) ≤ 0 → (∃ a3 : Nat, (wR w x0 18) = some a3 ∧ (bw_is w a3 103 ∧ (vp_in x1 (wN w a3) ∧ (∀ i6 : Int32, i6 = wI w a3 x1.toNatClampNeg → (∃ a7 : Nat, (wR w x0 17) = some a7 ∧ (bw_is w a7 101 ∧ (vp_in x1 (wN w a7) ∧ (∃ a10 : Nat, (wR (sI w a7 x1.toNatClampNeg x2) x0 18) = some a10 ∧ (bw_is (sI w a7 x1.toNatClampNeg x2) a10 103 ∧ (vp_in x1 (wN (sI w a7 x1.toNatClampNeg x2) a10) ∧ ((i6 = 0 → (wb_Mo_divert_94 e0 mi Q x0 x1 x2 i6 (1 : Int32) (sI (sI w a7 x1.toNatClampNeg x2) a10 x1.toNatClampNeg (vp_nar .boolean (1 : Int32))))) ∧ (¬ i6 = 0 → (wb_Mo_divert_94 e0 mi Q x0 x1 x2 i6 (2 : Int32) (sI (sI w a7 x1.toNatClampNeg x2) a10 x1.toNatClampNeg (vp_nar .boolean (1 : Int32))))))))))))))))) ∧ (¬ (wI w x0 0) ≤ 0 → (Q (0 : Int32) w)))
set_option maxHeartbeats 4000000 in
set_option maxRecDepth 100000 in
theorem k_Mo_divert_55 {p : Program} {l : Launch} {e : Env} {s : State} {m : MethodId} {args : Array Value} {below : List Frame} {meth : Method} {c : Code} {D : va_G} {AC : Nat → ClassId} {e0 mi : Nat} {A : Nat → Prop} {mc ms : Nat} {Q : Int32 → Wd → Prop} (C : Cx p l s m args meth c D AC e0 mi A n_Mo_divert b_Mo_divert 4 (some .int)) (x0 : Nat) (x1 : Int32) (x2 : Int32) (w : Wd) (hq : wb_Mo_divert_55 e0 mi Q x0 x1 x2 w) : ∀ (H : Heap) (locs : List Loc) (cells slots : Nat) (ls : Array Slot), HW D cls8 FTc AC A s.heap H locs w → lv_has ls 4 [(0, va_rf (some x0)), (1, .int x1), (2, .int x2)] → cells ≤ mc → slots ≤ ms → W p l e { frames := 2, cells := mc, slots := ms, locals := 43 } s m args below meth c H locs cells slots (vx_MQ below (QQ D AC A (fun v w9 => ∃ r9 : Int32, v = some (.int r9) ∧ Q r9 w9)) (XX D AC A (fun _ _ => False)) args s mc ms A) (F0 m 55 ls []) := by
  obtain ⟨hl0, hx, hb, hr, ht, hown, hlocks, hnm, hml, hex, hK, hA, hZ, hV⟩ := id C
  intro H locs cells slots ls hW hl hc hs
  unfold wb_Mo_divert_55 at hq
  refine bw_aload_n hx hb d_Mo_divert_55 rfl (lv_at hl 0 rfl) ?_
  obtain ⟨t1, hq⟩ := hq
  refine bw_getI hx hb ht in_Mo hown hK hW rfl t1 (by decide) rfl 0 (by decide) rfl (ht _ m_744) (fun _ h => h) d_Mo_divert_56 ?_
  refine lv_if_le (tgt := 64) hx hb d_Mo_divert_59 (by decide) (fun c2 => ?_) (fun c2 => ?_)
  · have hq := hq.1 c2
    refine bw_aload_n hx hb d_Mo_divert_64 rfl (lv_at hl 0 rfl) ?_
    refine bw_getR hx hb ht in_Mo hown hK hW rfl t1 (by decide) rfl 18 (by decide) rfl (ht _ m_762) (fun _ h => h) d_Mo_divert_65 ?_
    refine lv_iload_n hx hb d_Mo_divert_68 rfl (lv_at hl 1 rfl) ?_
    obtain ⟨a3, ea3, hq⟩ := hq
    obtain ⟨t4, hq⟩ := hq
    obtain ⟨h5, hq⟩ := hq
    refine bw_zald C hW ea3 t4 h5 d_Mo_divert_69 ?_
    refine lv_topi (fun i6 ei6 => ?_)
    have hq := hq i6 ei6
    refine lv_istore_n (i := 3) (lv' := [(3, .int i6), (0, va_rf (some x0)), (1, .int x1), (2, .int x2)]) hx hb d_Mo_divert_70 rfl hl (by decide) (by simp [bw_cat, cat_i, cat_j]) (fun ls hl => ?_)
    refine bw_aload_n hx hb d_Mo_divert_71 rfl (lv_at hl 1 rfl) ?_
    refine bw_getR hx hb ht in_Mo hown hK hW rfl t1 (by decide) rfl 17 (by decide) rfl (ht _ m_761) (fun _ h => h) d_Mo_divert_72 ?_
    refine lv_iload_n hx hb d_Mo_divert_75 rfl (lv_at hl 2 rfl) ?_
    refine lv_iload_n hx hb d_Mo_divert_76 rfl (lv_at hl 3 rfl) ?_
    obtain ⟨a7, ea7, hq⟩ := hq
    obtain ⟨t8, hq⟩ := hq
    obtain ⟨h9, hq⟩ := hq
    refine bw_iast C hW ea7 t8 h9 d_Mo_divert_77 (fun H locs hW => ?_)
    refine bw_aload_n hx hb d_Mo_divert_78 rfl (lv_at hl 1 rfl) ?_
    refine bw_getR hx hb ht in_Mo hown hK hW rfl t1 (by decide) rfl 18 (by decide) rfl (ht _ m_762) (fun _ h => h) d_Mo_divert_79 ?_
    refine lv_iload_n hx hb d_Mo_divert_82 rfl (lv_at hl 2 rfl) ?_
    refine lv_iconst (v := 1) hx hb d_Mo_divert_83 (by decide) ?_
    obtain ⟨a10, ea10, hq⟩ := hq
    obtain ⟨t11, hq⟩ := hq
    obtain ⟨h12, hq⟩ := hq
    refine bw_zast C hW ea10 t11 h12 d_Mo_divert_84 (fun H locs hW => ?_)
    refine lv_iload_n hx hb d_Mo_divert_85 rfl (lv_at hl 0 rfl) ?_
    refine lv_if_eq (tgt := 93) hx hb d_Mo_divert_86 (by decide) (fun c13 => ?_) (fun c13 => ?_)
    · have hq := hq.1 c13
      refine lv_iconst (v := 1) hx hb d_Mo_divert_93 (by decide) ?_
      exact k_Mo_divert_94 C  _ _ _ _ _ _ hq _ _ _ _ _ hW (lv_sub hl [1, 2, 3, 0] rfl) hc hs
    · have hq := hq.2 c13
      refine lv_iconst (v := 2) hx hb d_Mo_divert_89 (by decide) ?_
      refine lv_goto (tgt := 94) hx hb d_Mo_divert_90 (by decide) ?_
      exact k_Mo_divert_94 C  _ _ _ _ _ _ hq _ _ _ _ _ hW (lv_sub hl [1, 2, 3, 0] rfl) hc hs
  · have hq := hq.2 c2
    refine lv_iconst (v := 0) hx hb d_Mo_divert_62 (by decide) ?_
    exact bw_iret C hW ⟨_, rfl, hq⟩ d_Mo_divert_63 hc hs
def wb_Mo_divert_52 (e0 mi : Nat) (Q : Int32 → Wd → Prop) (x0 : Nat) (x1 : Int32) (x2 : Int32) (z0 : Option Nat) (z1 : Int32) (w : Wd) : Prop :=
  ∃ a1 : Nat, z0 = some a1 ∧ (bw_is w a1 6 ∧ (wb_Mo_divert_55 e0 mi Q x0 x1 x2 (sI w a1 0 z1)))
set_option maxHeartbeats 4000000 in
set_option maxRecDepth 100000 in
theorem k_Mo_divert_52 {p : Program} {l : Launch} {e : Env} {s : State} {m : MethodId} {args : Array Value} {below : List Frame} {meth : Method} {c : Code} {D : va_G} {AC : Nat → ClassId} {e0 mi : Nat} {A : Nat → Prop} {mc ms : Nat} {Q : Int32 → Wd → Prop} (C : Cx p l s m args meth c D AC e0 mi A n_Mo_divert b_Mo_divert 4 (some .int)) (x0 : Nat) (x1 : Int32) (x2 : Int32) (z0 : Option Nat) (z1 : Int32) (w : Wd) (hq : wb_Mo_divert_52 e0 mi Q x0 x1 x2 z0 z1 w) : ∀ (H : Heap) (locs : List Loc) (cells slots : Nat) (ls : Array Slot), HW D cls8 FTc AC A s.heap H locs w → lv_has ls 4 [(0, va_rf (some x0)), (1, .int x1), (2, .int x2)] → cells ≤ mc → slots ≤ ms → W p l e { frames := 2, cells := mc, slots := ms, locals := 43 } s m args below meth c H locs cells slots (vx_MQ below (QQ D AC A (fun v w9 => ∃ r9 : Int32, v = some (.int r9) ∧ Q r9 w9)) (XX D AC A (fun _ _ => False)) args s mc ms A) (F0 m 52 ls [.int z1, va_rf z0]) := by
  obtain ⟨hl0, hx, hb, hr, ht, hown, hlocks, hnm, hml, hex, hK, hA, hZ, hV⟩ := id C
  intro H locs cells slots ls hW hl hc hs
  unfold wb_Mo_divert_52 at hq
  obtain ⟨a1, ea1, hq⟩ := hq
  obtain ⟨t2, hq⟩ := hq
  refine bw_putI hx hb ht in_Mo y_Mo yk_Mo nm_Mo hown hK hW ea1 t2 (by decide) rfl 0 (by decide) rfl (ht _ m_744) (fun _ h => h) (Or.inl rfl) rfl rfl d_Mo_divert_52 (fun H locs hW => ?_)
  exact k_Mo_divert_55 C  _ _ _ _ hq _ _ _ _ _ hW (lv_sub hl [0, 1, 2] rfl) hc hs
def wb_Mo_divert_27 (e0 mi : Nat) (Q : Int32 → Wd → Prop) (x0 : Nat) (x1 : Int32) (x2 : Int32) (z0 : Option Nat) (z1 : Int32) (w : Wd) : Prop :=
  ∃ a1 : Nat, z0 = some a1 ∧ (bw_is w a1 6 ∧ (bw_is (sI w a1 0 z1) x0 6 ∧ ((¬ (wI (sI w a1 0 z1) x0 0) = 0 → (wb_Mo_divert_55 e0 mi Q x0 x1 x2 (sI w a1 0 z1))) ∧ ((wI (sI w a1 0 z1) x0 0) = 0 → (∃ a5 : Nat, (wR (sI w a1 0 z1) x0 13) = some a5 ∧ (bw_is (sI w a1 0 z1) a5 101 ∧ (vp_in x1 (wN (sI w a1 0 z1) a5) ∧ (((wI (sI w a1 0 z1) a5 x1.toNatClampNeg) = 0 → (wb_Mo_divert_52 e0 mi Q x0 x1 x2 (some x0) (0 : Int32) (sI w a1 0 z1))) ∧ (¬ (wI (sI w a1 0 z1) a5 x1.toNatClampNeg) = 0 → (wb_Mo_divert_52 e0 mi Q x0 x1 x2 (some x0) (3 : Int32) (sI w a1 0 z1)))))))))))
set_option maxHeartbeats 4000000 in
set_option maxRecDepth 100000 in
theorem k_Mo_divert_27 {p : Program} {l : Launch} {e : Env} {s : State} {m : MethodId} {args : Array Value} {below : List Frame} {meth : Method} {c : Code} {D : va_G} {AC : Nat → ClassId} {e0 mi : Nat} {A : Nat → Prop} {mc ms : Nat} {Q : Int32 → Wd → Prop} (C : Cx p l s m args meth c D AC e0 mi A n_Mo_divert b_Mo_divert 4 (some .int)) (x0 : Nat) (x1 : Int32) (x2 : Int32) (z0 : Option Nat) (z1 : Int32) (w : Wd) (hq : wb_Mo_divert_27 e0 mi Q x0 x1 x2 z0 z1 w) : ∀ (H : Heap) (locs : List Loc) (cells slots : Nat) (ls : Array Slot), HW D cls8 FTc AC A s.heap H locs w → lv_has ls 4 [(0, va_rf (some x0)), (1, .int x1), (2, .int x2)] → cells ≤ mc → slots ≤ ms → W p l e { frames := 2, cells := mc, slots := ms, locals := 43 } s m args below meth c H locs cells slots (vx_MQ below (QQ D AC A (fun v w9 => ∃ r9 : Int32, v = some (.int r9) ∧ Q r9 w9)) (XX D AC A (fun _ _ => False)) args s mc ms A) (F0 m 27 ls [.int z1, va_rf z0]) := by
  obtain ⟨hl0, hx, hb, hr, ht, hown, hlocks, hnm, hml, hex, hK, hA, hZ, hV⟩ := id C
  intro H locs cells slots ls hW hl hc hs
  unfold wb_Mo_divert_27 at hq
  obtain ⟨a1, ea1, hq⟩ := hq
  obtain ⟨t2, hq⟩ := hq
  refine bw_putI hx hb ht in_Mo y_Mo yk_Mo nm_Mo hown hK hW ea1 t2 (by decide) rfl 0 (by decide) rfl (ht _ m_744) (fun _ h => h) (Or.inl rfl) rfl rfl d_Mo_divert_27 (fun H locs hW => ?_)
  refine bw_aload_n hx hb d_Mo_divert_30 rfl (lv_at hl 0 rfl) ?_
  obtain ⟨t3, hq⟩ := hq
  refine bw_getI hx hb ht in_Mo hown hK hW rfl t3 (by decide) rfl 0 (by decide) rfl (ht _ m_744) (fun _ h => h) d_Mo_divert_31 ?_
  refine lv_if_ne (tgt := 55) hx hb d_Mo_divert_34 (by decide) (fun c4 => ?_) (fun c4 => ?_)
  · have hq := hq.1 c4
    exact k_Mo_divert_55 C  _ _ _ _ hq _ _ _ _ _ hW (lv_sub hl [0, 1, 2] rfl) hc hs
  · have hq := hq.2 c4
    refine bw_aload_n hx hb d_Mo_divert_37 rfl (lv_at hl 0 rfl) ?_
    refine bw_aload_n hx hb d_Mo_divert_38 rfl (lv_at hl 0 rfl) ?_
    refine bw_getR hx hb ht in_Mo hown hK hW rfl t3 (by decide) rfl 13 (by decide) rfl (ht _ m_757) (fun _ h => h) d_Mo_divert_39 ?_
    refine lv_iload_n hx hb d_Mo_divert_42 rfl (lv_at hl 1 rfl) ?_
    obtain ⟨a5, ea5, hq⟩ := hq
    obtain ⟨t6, hq⟩ := hq
    obtain ⟨h7, hq⟩ := hq
    refine bw_iald C hW ea5 t6 h7 d_Mo_divert_43 ?_
    refine lv_if_eq (tgt := 51) hx hb d_Mo_divert_44 (by decide) (fun c8 => ?_) (fun c8 => ?_)
    · have hq := hq.1 c8
      refine lv_iconst (v := 0) hx hb d_Mo_divert_51 (by decide) ?_
      exact k_Mo_divert_52 C  _ _ _ _ _ _ hq _ _ _ _ _ hW (lv_sub hl [0, 1, 2] rfl) hc hs
    · have hq := hq.2 c8
      refine lv_iconst (v := 3) hx hb d_Mo_divert_47 (by decide) ?_
      refine lv_goto (tgt := 52) hx hb d_Mo_divert_48 (by decide) ?_
      exact k_Mo_divert_52 C  _ _ _ _ _ _ hq _ _ _ _ _ hW (lv_sub hl [0, 1, 2] rfl) hc hs
def wp_Mo_divert (e0 mi : Nat) (x0 : Nat) (x1 : Int32) (x2 : Int32) (w : Wd) (Q : Int32 → Wd → Prop) : Prop :=
  bw_is w x0 6 ∧ (wp_Mo_isItem e0 mi x0 x1 w (fun i8 w3 => (¬ i8 = 0 → (wp_Mo_in e0 mi x2 (0 : Int32) (1 : Int32) w3 (fun i16 w11 => (¬ i16 = 0 → (wb_Mo_divert_27 e0 mi Q x0 x1 x2 (some x0) (0 : Int32) w11)) ∧ (i16 = 0 → (wb_Mo_divert_27 e0 mi Q x0 x1 x2 (some x0) (2 : Int32) w11))))) ∧ (i8 = 0 → (wb_Mo_divert_27 e0 mi Q x0 x1 x2 (some x0) (1 : Int32) w3))))
set_option maxHeartbeats 4000000 in
set_option maxRecDepth 100000 in
theorem k_Mo_divert_0 {p : Program} {l : Launch} {e : Env} {s : State} {m : MethodId} {args : Array Value} {below : List Frame} {meth : Method} {c : Code} {D : va_G} {AC : Nat → ClassId} {e0 mi : Nat} {A : Nat → Prop} {mc ms : Nat} {Q : Int32 → Wd → Prop} (C : Cx p l s m args meth c D AC e0 mi A n_Mo_divert b_Mo_divert 4 (some .int)) (x0 : Nat) (x1 : Int32) (x2 : Int32) (w : Wd) (hq : wp_Mo_divert e0 mi x0 x1 x2 w Q) : ∀ (H : Heap) (locs : List Loc) (cells slots : Nat) (ls : Array Slot), HW D cls8 FTc AC A s.heap H locs w → lv_has ls 4 [(0, va_rf (some x0)), (1, .int x1), (2, .int x2)] → cells ≤ mc → slots ≤ ms → W p l e { frames := 2, cells := mc, slots := ms, locals := 43 } s m args below meth c H locs cells slots (vx_MQ below (QQ D AC A (fun v w9 => ∃ r9 : Int32, v = some (.int r9) ∧ Q r9 w9)) (XX D AC A (fun _ _ => False)) args s mc ms A) (F0 m 0 ls []) := by
  obtain ⟨hl0, hx, hb, hr, ht, hown, hlocks, hnm, hml, hex, hK, hA, hZ, hV⟩ := id C
  intro H locs cells slots ls hW hl hc hs
  unfold wp_Mo_divert at hq
  refine bw_aload_n hx hb d_Mo_divert_0 rfl (lv_at hl 0 rfl) ?_
  refine bw_aload_n hx hb d_Mo_divert_1 rfl (lv_at hl 0 rfl) ?_
  refine lv_iload_n hx hb d_Mo_divert_2 rfl (lv_at hl 1 rfl) ?_
  obtain ⟨t1, hq⟩ := hq
  refine bw_callV (As := [.int x1]) (rest := [va_rf (some x0)]) C hW ci_Mo_isItem m_895 m_897 sel_Mo_isItem d_Mo_divert_3 rfl t1 (by decide) rfl rfl rfl hl.1 (by simp [bw_cat, cat_i, cat_j]) ⟨Nat.le_of_ble_eq_true rfl, Nat.le_of_ble_eq_true rfl⟩ ⟨hc, hs⟩ (c_Mo_isItem hl0 _ _ _ hq) (fun _ _ _ _ _ _ h => h.elim) (fun v2 w3 H locs hv hW => ?_)
  obtain ⟨i8, rfl, hq⟩ := hv
  refine W.eq (g2 := F0 m 6 ls [.int i8, va_rf (some x0)]) rfl ?_
  refine lv_if_ne (tgt := 13) hx hb d_Mo_divert_6 (by decide) (fun c9 => ?_) (fun c9 => ?_)
  · have hq := hq.1 c9
    refine lv_iload_n hx hb d_Mo_divert_13 rfl (lv_at hl 2 rfl) ?_
    refine lv_iconst (v := 0) hx hb d_Mo_divert_14 (by decide) ?_
    refine lv_iconst (v := 1) hx hb d_Mo_divert_15 (by decide) ?_
    refine bw_callS (As := [.int x2, .int (0 : Int32), .int (1 : Int32)]) (rest := [va_rf (some x0)]) C hW ci_Mo_in m_848 m_849 d_Mo_divert_16 rfl rfl hl.1 (by simp [bw_cat, cat_i, cat_j]) ⟨Nat.le_of_ble_eq_true rfl, Nat.le_of_ble_eq_true rfl⟩ ⟨hc, hs⟩ (c_Mo_in hl0 _ _ _ _ hq) (fun _ _ _ _ _ _ h => h.elim) (fun v10 w11 H locs hv hW => ?_)
    obtain ⟨i16, rfl, hq⟩ := hv
    refine W.eq (g2 := F0 m 19 ls [.int i16, va_rf (some x0)]) rfl ?_
    refine lv_if_ne (tgt := 26) hx hb d_Mo_divert_19 (by decide) (fun c17 => ?_) (fun c17 => ?_)
    · have hq := hq.1 c17
      refine lv_iconst (v := 0) hx hb d_Mo_divert_26 (by decide) ?_
      exact k_Mo_divert_27 C  _ _ _ _ _ _ hq _ _ _ _ _ hW (lv_sub hl [0, 1, 2] rfl) hc hs
    · have hq := hq.2 c17
      refine lv_iconst (v := 2) hx hb d_Mo_divert_22 (by decide) ?_
      refine lv_goto (tgt := 27) hx hb d_Mo_divert_23 (by decide) ?_
      exact k_Mo_divert_27 C  _ _ _ _ _ _ hq _ _ _ _ _ hW (lv_sub hl [0, 1, 2] rfl) hc hs
  · have hq := hq.2 c9
    refine lv_iconst (v := 1) hx hb d_Mo_divert_9 (by decide) ?_
    refine lv_goto (tgt := 27) hx hb d_Mo_divert_10 (by decide) ?_
    exact k_Mo_divert_27 C  _ _ _ _ _ _ hq _ _ _ _ _ hW (lv_sub hl [0, 1, 2] rfl) hc hs
theorem ci_Mo_divert : CI n_Mo_divert b_Mo_divert 4 (some .int) 2 := ⟨m_894, m_5, by decide, by decide, by decide +kernel⟩
theorem c_Mo_divert {l : Launch} {D : va_G} {AC : Nat → ClassId} {e0 mi : Nat} {Q : Int32 → Wd → Prop} (hl0 : l.stackTraces = false) (x0 : Nat) (x1 : Int32) (x2 : Int32) (w : Wd) (hq : wp_Mo_divert e0 mi x0 x1 x2 w Q) : Ct l D AC e0 mi n_Mo_divert (wy n_Mo_divert b_Mo_divert 4 (some .int)) 2 43 [va_rf (some x0), .int x1, .int x2] w 0 0 (fun v w9 => ∃ r9 : Int32, v = some (.int r9) ∧ Q r9 w9) (fun _ _ => False) :=
  Ct.of hl0 (by decide) (by simp [lg_sl, bw_cat, cat_i, cat_j]) (fun p e s m args below meth c A ls C hW hl => k_Mo_divert_0 C x0 x1 x2 w hq s.heap [] 0 0 ls hW (by simpa [lv_args, bw_cat, cat_i, cat_j] using hl) (Nat.le_refl _) (Nat.le_refl _))
def wp_Mo_tell (e0 mi : Nat) (x0 : Nat) (x1 : Int32) (x2 : Int32) (x3 : Int32) (w : Wd) (Q : Wd → Prop) : Prop :=
  bw_is w x0 6 ∧ (∃ a2 : Nat, (wR w x0 28) = some a2 ∧ (bw_is w a2 102 ∧ (vp_in (wI w x0 27) (wN w a2) ∧ (Q (sI (sJ w a2 (wI w x0 27).toNatClampNeg ((((((wI w x0 1).toInt64) <<< ((32 : Int32).toInt64 &&& 63)) ||| (x1.toInt64 <<< ((24 : Int32).toInt64 &&& 63))) ||| (x2.toInt64 <<< ((8 : Int32).toInt64 &&& 63))) ||| x3.toInt64)) x0 27 ((wI (sJ w a2 (wI w x0 27).toNatClampNeg ((((((wI w x0 1).toInt64) <<< ((32 : Int32).toInt64 &&& 63)) ||| (x1.toInt64 <<< ((24 : Int32).toInt64 &&& 63))) ||| (x2.toInt64 <<< ((8 : Int32).toInt64 &&& 63))) ||| x3.toInt64)) x0 27) + (1 : Int32)))))))
set_option maxHeartbeats 4000000 in
set_option maxRecDepth 100000 in
theorem k_Mo_tell_0 {p : Program} {l : Launch} {e : Env} {s : State} {m : MethodId} {args : Array Value} {below : List Frame} {meth : Method} {c : Code} {D : va_G} {AC : Nat → ClassId} {e0 mi : Nat} {A : Nat → Prop} {mc ms : Nat} {Q : Wd → Prop} (C : Cx p l s m args meth c D AC e0 mi A n_Mo_tell b_Mo_tell 4 none) (x0 : Nat) (x1 : Int32) (x2 : Int32) (x3 : Int32) (w : Wd) (hq : wp_Mo_tell e0 mi x0 x1 x2 x3 w Q) : ∀ (H : Heap) (locs : List Loc) (cells slots : Nat) (ls : Array Slot), HW D cls8 FTc AC A s.heap H locs w → lv_has ls 4 [(0, va_rf (some x0)), (1, .int x1), (2, .int x2), (3, .int x3)] → cells ≤ mc → slots ≤ ms → W p l e { frames := 0, cells := mc, slots := ms, locals := 0 } s m args below meth c H locs cells slots (vx_MQ below (QQ D AC A (fun v w9 => v = none ∧ Q w9)) (XX D AC A (fun _ _ => False)) args s mc ms A) (F0 m 0 ls []) := by
  obtain ⟨hl0, hx, hb, hr, ht, hown, hlocks, hnm, hml, hex, hK, hA, hZ, hV⟩ := id C
  intro H locs cells slots ls hW hl hc hs
  unfold wp_Mo_tell at hq
  refine bw_aload_n hx hb d_Mo_tell_0 rfl (lv_at hl 0 rfl) ?_
  obtain ⟨t1, hq⟩ := hq
  refine bw_getR hx hb ht in_Mo hown hK hW rfl t1 (by decide) rfl 28 (by decide) rfl (ht _ m_772) (fun _ h => h) d_Mo_tell_1 ?_
  refine bw_aload_n hx hb d_Mo_tell_4 rfl (lv_at hl 0 rfl) ?_
  refine bw_getI hx hb ht in_Mo hown hK hW rfl t1 (by decide) rfl 27 (by decide) rfl (ht _ m_771) (fun _ h => h) d_Mo_tell_5 ?_
  refine bw_aload_n hx hb d_Mo_tell_8 rfl (lv_at hl 0 rfl) ?_
  refine bw_getI hx hb ht in_Mo hown hK hW rfl t1 (by decide) rfl 1 (by decide) rfl (ht _ m_745) (fun _ h => h) d_Mo_tell_9 ?_
  refine lv_i2l hx hb d_Mo_tell_12 rfl ?_
  refine lv_bipush (v := 32) hx hb d_Mo_tell_13 (by decide) ?_
  refine lv_lshl hx hb d_Mo_tell_15 rfl ?_
  refine lv_iload_n hx hb d_Mo_tell_16 rfl (lv_at hl 1 rfl) ?_
  refine lv_i2l hx hb d_Mo_tell_17 rfl ?_
  refine lv_bipush (v := 24) hx hb d_Mo_tell_18 (by decide) ?_
  refine lv_lshl hx hb d_Mo_tell_20 rfl ?_
  refine lv_lor hx hb d_Mo_tell_21 ?_
  refine lv_iload_n hx hb d_Mo_tell_22 rfl (lv_at hl 2 rfl) ?_
  refine lv_i2l hx hb d_Mo_tell_23 rfl ?_
  refine lv_bipush (v := 8) hx hb d_Mo_tell_24 (by decide) ?_
  refine lv_lshl hx hb d_Mo_tell_26 rfl ?_
  refine lv_lor hx hb d_Mo_tell_27 ?_
  refine lv_iload_n hx hb d_Mo_tell_28 rfl (lv_at hl 3 rfl) ?_
  refine lv_i2l hx hb d_Mo_tell_29 rfl ?_
  refine lv_lor hx hb d_Mo_tell_30 ?_
  obtain ⟨a2, ea2, hq⟩ := hq
  obtain ⟨t3, hq⟩ := hq
  obtain ⟨h4, hq⟩ := hq
  refine bw_last C hW ea2 t3 h4 d_Mo_tell_31 (fun H locs hW => ?_)
  refine bw_aload_n hx hb d_Mo_tell_32 rfl (lv_at hl 0 rfl) ?_
  refine lv_dup hx hb d_Mo_tell_33 (bw_cat _) ?_
  refine bw_getI hx hb ht in_Mo hown hK hW rfl t1 (by decide) rfl 27 (by decide) rfl (ht _ m_771) (fun _ h => h) d_Mo_tell_34 ?_
  refine lv_iconst (v := 1) hx hb d_Mo_tell_37 (by decide) ?_
  refine lv_iadd hx hb d_Mo_tell_38 ?_
  refine bw_putI hx hb ht in_Mo y_Mo yk_Mo nm_Mo hown hK hW rfl t1 (by decide) rfl 27 (by decide) rfl (ht _ m_771) (fun _ h => h) (Or.inl rfl) rfl rfl d_Mo_tell_39 (fun H locs hW => ?_)
  exact bw_vret C hW ⟨rfl, hq⟩ d_Mo_tell_42 hc hs
theorem ci_Mo_tell : CI n_Mo_tell b_Mo_tell 4 none 3 := ⟨m_911, m_5, by decide, by decide, by decide +kernel⟩
theorem sel_Mo_tell : Cond.selects "BeltRowsModel" n_Mo_tell n_Mo_tell ∈ TBL := List.mem_filter.mpr ⟨List.mem_append_left _ (List.mem_map.mpr ⟨(n_Mo_tell, 32), by decide +kernel, rfl⟩), rfl⟩
theorem c_Mo_tell {l : Launch} {D : va_G} {AC : Nat → ClassId} {e0 mi : Nat} {Q : Wd → Prop} (hl0 : l.stackTraces = false) (x0 : Nat) (x1 : Int32) (x2 : Int32) (x3 : Int32) (w : Wd) (hq : wp_Mo_tell e0 mi x0 x1 x2 x3 w Q) : Ct l D AC e0 mi n_Mo_tell (wy n_Mo_tell b_Mo_tell 4 none) 0 0 [va_rf (some x0), .int x1, .int x2, .int x3] w 0 0 (fun v w9 => v = none ∧ Q w9) (fun _ _ => False) :=
  Ct.of hl0 (by decide) (by simp [lg_sl, bw_cat, cat_i, cat_j]) (fun p e s m args below meth c A ls C hW hl => k_Mo_tell_0 C x0 x1 x2 x3 w hq s.heap [] 0 0 ls hW (by simpa [lv_args, bw_cat, cat_i, cat_j] using hl) (Nat.le_refl _) (Nat.le_refl _))
def wb_Mo_readDue_77 (e0 mi : Nat) (K4 : Nat → Int32 → Int32 → Wd → Prop) (Q : Wd → Prop) (x0 : Nat) (x1 : Int32) (x2 : Int32) (w : Wd) : Prop :=
  ∀ i1 : Int32, i1 = x2 + 1 → (K4 x0 x1 i1 w)
set_option maxHeartbeats 4000000 in
set_option maxRecDepth 100000 in
theorem k_Mo_readDue_77 {p : Program} {l : Launch} {e : Env} {s : State} {m : MethodId} {args : Array Value} {below : List Frame} {meth : Method} {c : Code} {D : va_G} {AC : Nat → ClassId} {e0 mi : Nat} {A : Nat → Prop} {mc ms : Nat} {K4 : Nat → Int32 → Int32 → Wd → Prop} {Q : Wd → Prop} (C : Cx p l s m args meth c D AC e0 mi A n_Mo_readDue b_Mo_readDue 3 none) (hK4 : ∀ (x0 : Nat) (x1 : Int32) (x2 : Int32) (w : Wd), K4 x0 x1 x2 w → ∀ (H : Heap) (locs : List Loc) (cells slots : Nat) (ls : Array Slot), HW D cls8 FTc AC A s.heap H locs w → lv_has ls 3 [(0, va_rf (some x0)), (1, .int x1), (2, .int x2)] → cells ≤ mc → slots ≤ ms → W p l e { frames := 1, cells := mc, slots := ms, locals := 23 } s m args below meth c H locs cells slots (vx_MQ below (QQ D AC A (fun v w9 => v = none ∧ Q w9)) (XX D AC A (fun _ _ => False)) args s mc ms A) (F0 m 4 ls [])) (x0 : Nat) (x1 : Int32) (x2 : Int32) (w : Wd) (hq : wb_Mo_readDue_77 e0 mi K4 Q x0 x1 x2 w) : ∀ (H : Heap) (locs : List Loc) (cells slots : Nat) (ls : Array Slot), HW D cls8 FTc AC A s.heap H locs w → lv_has ls 3 [(0, va_rf (some x0)), (1, .int x1), (2, .int x2)] → cells ≤ mc → slots ≤ ms → W p l e { frames := 1, cells := mc, slots := ms, locals := 23 } s m args below meth c H locs cells slots (vx_MQ below (QQ D AC A (fun v w9 => v = none ∧ Q w9)) (XX D AC A (fun _ _ => False)) args s mc ms A) (F0 m 77 ls []) := by
  obtain ⟨hl0, hx, hb, hr, ht, hown, hlocks, hnm, hml, hex, hK, hA, hZ, hV⟩ := id C
  intro H locs cells slots ls hW hl hc hs
  unfold wb_Mo_readDue_77 at hq
  obtain ⟨i1, ei1⟩ : ∃ y : Int32, y = x2 + 1 := ⟨_, rfl⟩
  have hq := hq i1 ei1
  refine lv_iinc (v := i1) (lv' := [(2, .int i1), (0, va_rf (some x0)), (1, .int x1)]) hx hb d_Mo_readDue_77 hl (k := 2) rfl (by rw [ei1]; rfl) (by decide) (by simp [bw_cat, cat_i, cat_j]) (fun ls hl => ?_)
  refine lv_goto (tgt := 4) hx hb d_Mo_readDue_80 (by decide) ?_
  exact hK4 _ _ _ _ hq _ _ _ _ _ hW (lv_sub hl [1, 2, 0] rfl) hc hs
def wb_Mo_readDue_4 (e0 mi : Nat) (Q : Wd → Prop) : Nat → Nat → Int32 → Int32 → Wd → Prop
  | 0, _, _, _, _ => False
  | n + 1, x0, x1, x2, w => bw_is w x0 6 ∧ (((wI w x0 25) ≤ x2 → (Q (sI w x0 25 x1))) ∧ (¬ (wI w x0 25) ≤ x2 → (∃ a3 : Nat, (wR w x0 26) = some a3 ∧ (bw_is w a3 102 ∧ (vp_in x2 (wN w a3) ∧ ((¬ (((wJ w a3 x2.toNatClampNeg) >>> ((32 : Int32).toInt64 &&& 63)).toInt32) = (wI w x0 1) → (vp_in x2 (wN w a3) ∧ (vp_in x1 (wN w a3) ∧ (∀ i9 : Int32, i9 = x1 + 1 → (wb_Mo_readDue_77 e0 mi (wb_Mo_readDue_4 e0 mi Q n) Q x0 i9 x2 (sJ w a3 x1.toNatClampNeg (wJ w a3 x2.toNatClampNeg))))))) ∧ ((((wJ w a3 x2.toNatClampNeg) >>> ((32 : Int32).toInt64 &&& 63)).toInt32) = (wI w x0 1) → (vp_in x2 (wN w a3) ∧ (vp_in x2 (wN w a3) ∧ (wp_Mo_tell e0 mi x0 (0 : Int32) ((((wJ w a3 x2.toNatClampNeg) >>> ((8 : Int32).toInt64 &&& 63)) &&& (255 : Int64)).toInt32) (((wJ w a3 x2.toNatClampNeg) &&& (255 : Int64)).toInt32) w (fun w13 => wb_Mo_readDue_77 e0 mi (wb_Mo_readDue_4 e0 mi Q n) Q x0 x1 x2 w13)))))))))))
set_option maxHeartbeats 4000000 in
set_option maxRecDepth 100000 in
theorem k_Mo_readDue_4 {p : Program} {l : Launch} {e : Env} {s : State} {m : MethodId} {args : Array Value} {below : List Frame} {meth : Method} {c : Code} {D : va_G} {AC : Nat → ClassId} {e0 mi : Nat} {A : Nat → Prop} {mc ms : Nat} {Q : Wd → Prop} (C : Cx p l s m args meth c D AC e0 mi A n_Mo_readDue b_Mo_readDue 3 none) : ∀ (n : Nat) (x0 : Nat) (x1 : Int32) (x2 : Int32) (w : Wd), wb_Mo_readDue_4 e0 mi Q n x0 x1 x2 w → ∀ (H : Heap) (locs : List Loc) (cells slots : Nat) (ls : Array Slot), HW D cls8 FTc AC A s.heap H locs w → lv_has ls 3 [(0, va_rf (some x0)), (1, .int x1), (2, .int x2)] → cells ≤ mc → slots ≤ ms → W p l e { frames := 1, cells := mc, slots := ms, locals := 23 } s m args below meth c H locs cells slots (vx_MQ below (QQ D AC A (fun v w9 => v = none ∧ Q w9)) (XX D AC A (fun _ _ => False)) args s mc ms A) (F0 m 4 ls []) := by
  obtain ⟨hl0, hx, hb, hr, ht, hown, hlocks, hnm, hml, hex, hK, hA, hZ, hV⟩ := id C
  intro n
  induction n with
  | zero =>
    intro x0 x1 x2 w hq
    exact hq.elim
  | succ n ih =>
    intro x0 x1 x2 w hq H locs cells slots ls hW hl hc hs
    have hK4 := ih
    unfold wb_Mo_readDue_4 at hq
    refine lv_iload_n hx hb d_Mo_readDue_4 rfl (lv_at hl 2 rfl) ?_
    refine bw_aload_n hx hb d_Mo_readDue_5 rfl (lv_at hl 0 rfl) ?_
    obtain ⟨t1, hq⟩ := hq
    refine bw_getI hx hb ht in_Mo hown hK hW rfl t1 (by decide) rfl 25 (by decide) rfl (ht _ m_769) (fun _ h => h) d_Mo_readDue_6 ?_
    refine lv_icmp_ge (tgt := 83) hx hb d_Mo_readDue_9 (by decide) (fun c2 => ?_) (fun c2 => ?_)
    · have hq := hq.1 c2
      refine bw_aload_n hx hb d_Mo_readDue_83 rfl (lv_at hl 0 rfl) ?_
      refine lv_iload_n hx hb d_Mo_readDue_84 rfl (lv_at hl 1 rfl) ?_
      refine bw_putI hx hb ht in_Mo y_Mo yk_Mo nm_Mo hown hK hW rfl t1 (by decide) rfl 25 (by decide) rfl (ht _ m_769) (fun _ h => h) (Or.inl rfl) rfl rfl d_Mo_readDue_85 (fun H locs hW => ?_)
      exact bw_vret C hW ⟨rfl, hq⟩ d_Mo_readDue_88 hc hs
    · have hq := hq.2 c2
      refine bw_aload_n hx hb d_Mo_readDue_12 rfl (lv_at hl 0 rfl) ?_
      refine bw_getR hx hb ht in_Mo hown hK hW rfl t1 (by decide) rfl 26 (by decide) rfl (ht _ m_770) (fun _ h => h) d_Mo_readDue_13 ?_
      refine lv_iload_n hx hb d_Mo_readDue_16 rfl (lv_at hl 2 rfl) ?_
      obtain ⟨a3, ea3, hq⟩ := hq
      obtain ⟨t4, hq⟩ := hq
      obtain ⟨h5, hq⟩ := hq
      refine bw_lald C hW ea3 t4 h5 d_Mo_readDue_17 ?_
      refine lv_bipush (v := 32) hx hb d_Mo_readDue_18 (by decide) ?_
      refine lv_lshr hx hb d_Mo_readDue_20 rfl ?_
      refine lv_l2i hx hb d_Mo_readDue_21 rfl ?_
      refine bw_aload_n hx hb d_Mo_readDue_22 rfl (lv_at hl 0 rfl) ?_
      refine bw_getI hx hb ht in_Mo hown hK hW rfl t1 (by decide) rfl 1 (by decide) rfl (ht _ m_745) (fun _ h => h) d_Mo_readDue_23 ?_
      refine lv_icmp_ne (tgt := 62) hx hb d_Mo_readDue_26 (by decide) (fun c6 => ?_) (fun c6 => ?_)
      · have hq := hq.1 c6
        refine bw_aload_n hx hb d_Mo_readDue_62 rfl (lv_at hl 0 rfl) ?_
        refine bw_getR hx hb ht in_Mo hown hK hW rfl t1 (by decide) rfl 26 (by decide) rfl (ht _ m_770) (fun _ h => h) d_Mo_readDue_63 ?_
        refine lv_iload_n hx hb d_Mo_readDue_66 rfl (lv_at hl 1 rfl) ?_
        refine bw_aload_n hx hb d_Mo_readDue_67 rfl (lv_at hl 0 rfl) ?_
        refine bw_getR hx hb ht in_Mo hown hK hW rfl t1 (by decide) rfl 26 (by decide) rfl (ht _ m_770) (fun _ h => h) d_Mo_readDue_68 ?_
        refine lv_iload_n hx hb d_Mo_readDue_71 rfl (lv_at hl 2 rfl) ?_
        obtain ⟨h7, hq⟩ := hq
        refine bw_lald C hW ea3 t4 h7 d_Mo_readDue_72 ?_
        obtain ⟨h8, hq⟩ := hq
        refine bw_last C hW ea3 t4 h8 d_Mo_readDue_73 (fun H locs hW => ?_)
        obtain ⟨i9, ei9⟩ : ∃ y : Int32, y = x1 + 1 := ⟨_, rfl⟩
        have hq := hq i9 ei9
        refine lv_iinc (v := i9) (lv' := [(1, .int i9), (0, va_rf (some x0)), (2, .int x2)]) hx hb d_Mo_readDue_74 hl (k := 1) rfl (by rw [ei9]; rfl) (by decide) (by simp [bw_cat, cat_i, cat_j]) (fun ls hl => ?_)
        exact k_Mo_readDue_77 C hK4 _ _ _ _ hq _ _ _ _ _ hW (lv_sub hl [1, 0, 2] rfl) hc hs
      · have hq := hq.2 c6
        refine bw_aload_n hx hb d_Mo_readDue_29 rfl (lv_at hl 0 rfl) ?_
        refine lv_iconst (v := 0) hx hb d_Mo_readDue_30 (by decide) ?_
        refine bw_aload_n hx hb d_Mo_readDue_31 rfl (lv_at hl 0 rfl) ?_
        refine bw_getR hx hb ht in_Mo hown hK hW rfl t1 (by decide) rfl 26 (by decide) rfl (ht _ m_770) (fun _ h => h) d_Mo_readDue_32 ?_
        refine lv_iload_n hx hb d_Mo_readDue_35 rfl (lv_at hl 2 rfl) ?_
        obtain ⟨h10, hq⟩ := hq
        refine bw_lald C hW ea3 t4 h10 d_Mo_readDue_36 ?_
        refine lv_bipush (v := 8) hx hb d_Mo_readDue_37 (by decide) ?_
        refine lv_lshr hx hb d_Mo_readDue_39 rfl ?_
        refine lv_ldc2 hx hb hown (ht _ m_907) d_Mo_readDue_40 ?_
        refine lv_land hx hb d_Mo_readDue_43 ?_
        refine lv_l2i hx hb d_Mo_readDue_44 rfl ?_
        refine bw_aload_n hx hb d_Mo_readDue_45 rfl (lv_at hl 0 rfl) ?_
        refine bw_getR hx hb ht in_Mo hown hK hW rfl t1 (by decide) rfl 26 (by decide) rfl (ht _ m_770) (fun _ h => h) d_Mo_readDue_46 ?_
        refine lv_iload_n hx hb d_Mo_readDue_49 rfl (lv_at hl 2 rfl) ?_
        obtain ⟨h11, hq⟩ := hq
        refine bw_lald C hW ea3 t4 h11 d_Mo_readDue_50 ?_
        refine lv_ldc2 hx hb hown (ht _ m_907) d_Mo_readDue_51 ?_
        refine lv_land hx hb d_Mo_readDue_54 ?_
        refine lv_l2i hx hb d_Mo_readDue_55 rfl ?_
        refine bw_callV (As := [.int (0 : Int32), .int ((((wJ w a3 x2.toNatClampNeg) >>> ((8 : Int32).toInt64 &&& 63)) &&& (255 : Int64)).toInt32), .int (((wJ w a3 x2.toNatClampNeg) &&& (255 : Int64)).toInt32)]) (rest := []) C hW ci_Mo_tell m_908 m_910 sel_Mo_tell d_Mo_readDue_56 rfl t1 (by decide) rfl rfl rfl hl.1 (by decide) ⟨Nat.le_of_ble_eq_true rfl, Nat.le_of_ble_eq_true rfl⟩ ⟨hc, hs⟩ (c_Mo_tell hl0 _ _ _ _ _ hq) (fun _ _ _ _ _ _ h => h.elim) (fun v12 w13 H locs hv hW => ?_)
        obtain ⟨rfl, hq⟩ := hv
        refine W.eq (g2 := F0 m 59 ls []) rfl ?_
        refine lv_goto (tgt := 77) hx hb d_Mo_readDue_59 (by decide) ?_
        exact k_Mo_readDue_77 C hK4 _ _ _ _ hq _ _ _ _ _ hW (lv_sub hl [0, 1, 2] rfl) hc hs
def wp_Mo_readDue (e0 mi : Nat) (x0 : Nat) (w : Wd) (Q : Wd → Prop) : Prop :=
  ∃ n1 : Nat, wb_Mo_readDue_4 e0 mi Q n1 x0 (0 : Int32) (0 : Int32) w
set_option maxHeartbeats 4000000 in
set_option maxRecDepth 100000 in
theorem k_Mo_readDue_0 {p : Program} {l : Launch} {e : Env} {s : State} {m : MethodId} {args : Array Value} {below : List Frame} {meth : Method} {c : Code} {D : va_G} {AC : Nat → ClassId} {e0 mi : Nat} {A : Nat → Prop} {mc ms : Nat} {Q : Wd → Prop} (C : Cx p l s m args meth c D AC e0 mi A n_Mo_readDue b_Mo_readDue 3 none) (x0 : Nat) (w : Wd) (hq : wp_Mo_readDue e0 mi x0 w Q) : ∀ (H : Heap) (locs : List Loc) (cells slots : Nat) (ls : Array Slot), HW D cls8 FTc AC A s.heap H locs w → lv_has ls 3 [(0, va_rf (some x0))] → cells ≤ mc → slots ≤ ms → W p l e { frames := 1, cells := mc, slots := ms, locals := 23 } s m args below meth c H locs cells slots (vx_MQ below (QQ D AC A (fun v w9 => v = none ∧ Q w9)) (XX D AC A (fun _ _ => False)) args s mc ms A) (F0 m 0 ls []) := by
  obtain ⟨hl0, hx, hb, hr, ht, hown, hlocks, hnm, hml, hex, hK, hA, hZ, hV⟩ := id C
  intro H locs cells slots ls hW hl hc hs
  unfold wp_Mo_readDue at hq
  refine lv_iconst (v := 0) hx hb d_Mo_readDue_0 (by decide) ?_
  refine lv_istore_n (i := 1) (lv' := [(1, .int (0 : Int32)), (0, va_rf (some x0))]) hx hb d_Mo_readDue_1 rfl hl (by decide) (by simp [bw_cat, cat_i, cat_j]) (fun ls hl => ?_)
  refine lv_iconst (v := 0) hx hb d_Mo_readDue_2 (by decide) ?_
  refine lv_istore_n (i := 2) (lv' := [(2, .int (0 : Int32)), (1, .int (0 : Int32)), (0, va_rf (some x0))]) hx hb d_Mo_readDue_3 rfl hl (by decide) (by simp [bw_cat, cat_i, cat_j]) (fun ls hl => ?_)
  obtain ⟨n1, hq⟩ := hq
  exact k_Mo_readDue_4 C  n1 _ _ _ _ hq _ _ _ _ _ hW (lv_sub hl [2, 1, 0] rfl) hc hs
theorem ci_Mo_readDue : CI n_Mo_readDue b_Mo_readDue 3 none 0 := ⟨m_906, m_5, by decide, by decide, by decide +kernel⟩
theorem sel_Mo_readDue : Cond.selects "BeltRowsModel" n_Mo_readDue n_Mo_readDue ∈ TBL := List.mem_filter.mpr ⟨List.mem_append_left _ (List.mem_map.mpr ⟨(n_Mo_readDue, 32), by decide +kernel, rfl⟩), rfl⟩
theorem c_Mo_readDue {l : Launch} {D : va_G} {AC : Nat → ClassId} {e0 mi : Nat} {Q : Wd → Prop} (hl0 : l.stackTraces = false) (x0 : Nat) (w : Wd) (hq : wp_Mo_readDue e0 mi x0 w Q) : Ct l D AC e0 mi n_Mo_readDue (wy n_Mo_readDue b_Mo_readDue 3 none) 1 23 [va_rf (some x0)] w 0 0 (fun v w9 => v = none ∧ Q w9) (fun _ _ => False) :=
  Ct.of hl0 (by decide) (by simp [lg_sl, bw_cat, cat_i, cat_j]) (fun p e s m args below meth c A ls C hW hl => k_Mo_readDue_0 C x0 w hq s.heap [] 0 0 ls hW (by simpa [lv_args, bw_cat, cat_i, cat_j] using hl) (Nat.le_refl _) (Nat.le_refl _))
def wb_Mo_atEnd_41 (e0 mi : Nat) (Q : Int32 → Wd → Prop) (x0 : Nat) (x1 : Int32) (x2 : Int32) (z0 : Int32) (w : Wd) : Prop :=
  Q z0 w
set_option maxHeartbeats 4000000 in
set_option maxRecDepth 100000 in
theorem k_Mo_atEnd_41 {p : Program} {l : Launch} {e : Env} {s : State} {m : MethodId} {args : Array Value} {below : List Frame} {meth : Method} {c : Code} {D : va_G} {AC : Nat → ClassId} {e0 mi : Nat} {A : Nat → Prop} {mc ms : Nat} {Q : Int32 → Wd → Prop} (C : Cx p l s m args meth c D AC e0 mi A n_Mo_atEnd b_Mo_atEnd 3 (some .int)) (x0 : Nat) (x1 : Int32) (x2 : Int32) (z0 : Int32) (w : Wd) (hq : wb_Mo_atEnd_41 e0 mi Q x0 x1 x2 z0 w) : ∀ (H : Heap) (locs : List Loc) (cells slots : Nat) (ls : Array Slot), HW D cls8 FTc AC A s.heap H locs w → lv_has ls 3 [(0, va_rf (some x0)), (1, .int x1), (2, .int x2)] → cells ≤ mc → slots ≤ ms → W p l e { frames := 0, cells := mc, slots := ms, locals := 0 } s m args below meth c H locs cells slots (vx_MQ below (QQ D AC A (fun v w9 => ∃ r9 : Int32, v = some (.int r9) ∧ Q r9 w9)) (XX D AC A (fun _ _ => False)) args s mc ms A) (F0 m 41 ls [.int z0]) := by
  obtain ⟨hl0, hx, hb, hr, ht, hown, hlocks, hnm, hml, hex, hK, hA, hZ, hV⟩ := id C
  intro H locs cells slots ls hW hl hc hs
  unfold wb_Mo_atEnd_41 at hq
  exact bw_iret C hW ⟨_, rfl, hq⟩ d_Mo_atEnd_41 hc hs
def wp_Mo_atEnd (e0 mi : Nat) (x0 : Nat) (x1 : Int32) (w : Wd) (Q : Int32 → Wd → Prop) : Prop :=
  bw_is w x0 6 ∧ (∃ a2 : Nat, (wR w x0 10) = some a2 ∧ (bw_is w a2 101 ∧ (vp_in x1 (wN w a2) ∧ ((¬ (wI w a2 x1.toNatClampNeg) = 0 → (∃ a6 : Nat, (wR w x0 11) = some a6 ∧ (bw_is w a6 101 ∧ (vp_in ((60 : Int32) * x1) (wN w a6) ∧ (∀ i9 : Int32, i9 = wI w a6 ((60 : Int32) * x1).toNatClampNeg → (∃ a10 : Nat, (wR w x0 15) = some a10 ∧ (bw_is w a10 101 ∧ (vp_in i9 (wN w a10) ∧ (∃ a13 : Nat, (wR w x0 4) = some a13 ∧ (bw_is w a13 101 ∧ (vp_in x1 (wN w a13) ∧ ((¬ (wI w a10 i9.toNatClampNeg) = (wI w a13 x1.toNatClampNeg) → (wb_Mo_atEnd_41 e0 mi Q x0 x1 i9 (0 : Int32) w)) ∧ ((wI w a10 i9.toNatClampNeg) = (wI w a13 x1.toNatClampNeg) → (wb_Mo_atEnd_41 e0 mi Q x0 x1 i9 i9 w)))))))))))))) ∧ ((wI w a2 x1.toNatClampNeg) = 0 → (Q (0 : Int32) w))))))
set_option maxHeartbeats 4000000 in
set_option maxRecDepth 100000 in
theorem k_Mo_atEnd_0 {p : Program} {l : Launch} {e : Env} {s : State} {m : MethodId} {args : Array Value} {below : List Frame} {meth : Method} {c : Code} {D : va_G} {AC : Nat → ClassId} {e0 mi : Nat} {A : Nat → Prop} {mc ms : Nat} {Q : Int32 → Wd → Prop} (C : Cx p l s m args meth c D AC e0 mi A n_Mo_atEnd b_Mo_atEnd 3 (some .int)) (x0 : Nat) (x1 : Int32) (w : Wd) (hq : wp_Mo_atEnd e0 mi x0 x1 w Q) : ∀ (H : Heap) (locs : List Loc) (cells slots : Nat) (ls : Array Slot), HW D cls8 FTc AC A s.heap H locs w → lv_has ls 3 [(0, va_rf (some x0)), (1, .int x1)] → cells ≤ mc → slots ≤ ms → W p l e { frames := 0, cells := mc, slots := ms, locals := 0 } s m args below meth c H locs cells slots (vx_MQ below (QQ D AC A (fun v w9 => ∃ r9 : Int32, v = some (.int r9) ∧ Q r9 w9)) (XX D AC A (fun _ _ => False)) args s mc ms A) (F0 m 0 ls []) := by
  obtain ⟨hl0, hx, hb, hr, ht, hown, hlocks, hnm, hml, hex, hK, hA, hZ, hV⟩ := id C
  intro H locs cells slots ls hW hl hc hs
  unfold wp_Mo_atEnd at hq
  refine bw_aload_n hx hb d_Mo_atEnd_0 rfl (lv_at hl 0 rfl) ?_
  obtain ⟨t1, hq⟩ := hq
  refine bw_getR hx hb ht in_Mo hown hK hW rfl t1 (by decide) rfl 10 (by decide) rfl (ht _ m_754) (fun _ h => h) d_Mo_atEnd_1 ?_
  refine lv_iload_n hx hb d_Mo_atEnd_4 rfl (lv_at hl 1 rfl) ?_
  obtain ⟨a2, ea2, hq⟩ := hq
  obtain ⟨t3, hq⟩ := hq
  obtain ⟨h4, hq⟩ := hq
  refine bw_iald C hW ea2 t3 h4 d_Mo_atEnd_5 ?_
  refine lv_if_ne (tgt := 11) hx hb d_Mo_atEnd_6 (by decide) (fun c5 => ?_) (fun c5 => ?_)
  · have hq := hq.1 c5
    refine bw_aload_n hx hb d_Mo_atEnd_11 rfl (lv_at hl 0 rfl) ?_
    refine bw_getR hx hb ht in_Mo hown hK hW rfl t1 (by decide) rfl 11 (by decide) rfl (ht _ m_755) (fun _ h => h) d_Mo_atEnd_12 ?_
    refine lv_bipush (v := 60) hx hb d_Mo_atEnd_15 (by decide) ?_
    refine lv_iload_n hx hb d_Mo_atEnd_17 rfl (lv_at hl 1 rfl) ?_
    refine lv_imul hx hb d_Mo_atEnd_18 ?_
    obtain ⟨a6, ea6, hq⟩ := hq
    obtain ⟨t7, hq⟩ := hq
    obtain ⟨h8, hq⟩ := hq
    refine bw_iald C hW ea6 t7 h8 d_Mo_atEnd_19 ?_
    refine lv_topi (fun i9 ei9 => ?_)
    have hq := hq i9 ei9
    refine lv_istore_n (i := 2) (lv' := [(2, .int i9), (0, va_rf (some x0)), (1, .int x1)]) hx hb d_Mo_atEnd_20 rfl hl (by decide) (by simp [bw_cat, cat_i, cat_j]) (fun ls hl => ?_)
    refine bw_aload_n hx hb d_Mo_atEnd_21 rfl (lv_at hl 1 rfl) ?_
    refine bw_getR hx hb ht in_Mo hown hK hW rfl t1 (by decide) rfl 15 (by decide) rfl (ht _ m_759) (fun _ h => h) d_Mo_atEnd_22 ?_
    refine lv_iload_n hx hb d_Mo_atEnd_25 rfl (lv_at hl 0 rfl) ?_
    obtain ⟨a10, ea10, hq⟩ := hq
    obtain ⟨t11, hq⟩ := hq
    obtain ⟨h12, hq⟩ := hq
    refine bw_iald C hW ea10 t11 h12 d_Mo_atEnd_26 ?_
    refine bw_aload_n hx hb d_Mo_atEnd_27 rfl (lv_at hl 1 rfl) ?_
    refine bw_getR hx hb ht in_Mo hown hK hW rfl t1 (by decide) rfl 4 (by decide) rfl (ht _ m_748) (fun _ h => h) d_Mo_atEnd_28 ?_
    refine lv_iload_n hx hb d_Mo_atEnd_31 rfl (lv_at hl 2 rfl) ?_
    obtain ⟨a13, ea13, hq⟩ := hq
    obtain ⟨t14, hq⟩ := hq
    obtain ⟨h15, hq⟩ := hq
    refine bw_iald C hW ea13 t14 h15 d_Mo_atEnd_32 ?_
    refine lv_icmp_ne (tgt := 40) hx hb d_Mo_atEnd_33 (by decide) (fun c16 => ?_) (fun c16 => ?_)
    · have hq := hq.1 c16
      refine lv_iconst (v := 0) hx hb d_Mo_atEnd_40 (by decide) ?_
      exact k_Mo_atEnd_41 C  _ _ _ _ _ hq _ _ _ _ _ hW (lv_sub hl [1, 2, 0] rfl) hc hs
    · have hq := hq.2 c16
      refine lv_iload_n hx hb d_Mo_atEnd_36 rfl (lv_at hl 0 rfl) ?_
      refine lv_goto (tgt := 41) hx hb d_Mo_atEnd_37 (by decide) ?_
      exact k_Mo_atEnd_41 C  _ _ _ _ _ hq _ _ _ _ _ hW (lv_sub hl [1, 2, 0] rfl) hc hs
  · have hq := hq.2 c5
    refine lv_iconst (v := 0) hx hb d_Mo_atEnd_9 (by decide) ?_
    exact bw_iret C hW ⟨_, rfl, hq⟩ d_Mo_atEnd_10 hc hs
theorem ci_Mo_atEnd : CI n_Mo_atEnd b_Mo_atEnd 3 (some .int) 1 := ⟨m_919, m_5, by decide, by decide, by decide +kernel⟩
theorem sel_Mo_atEnd : Cond.selects "BeltRowsModel" n_Mo_atEnd n_Mo_atEnd ∈ TBL := List.mem_filter.mpr ⟨List.mem_append_left _ (List.mem_map.mpr ⟨(n_Mo_atEnd, 32), by decide +kernel, rfl⟩), rfl⟩
theorem c_Mo_atEnd {l : Launch} {D : va_G} {AC : Nat → ClassId} {e0 mi : Nat} {Q : Int32 → Wd → Prop} (hl0 : l.stackTraces = false) (x0 : Nat) (x1 : Int32) (w : Wd) (hq : wp_Mo_atEnd e0 mi x0 x1 w Q) : Ct l D AC e0 mi n_Mo_atEnd (wy n_Mo_atEnd b_Mo_atEnd 3 (some .int)) 0 0 [va_rf (some x0), .int x1] w 0 0 (fun v w9 => ∃ r9 : Int32, v = some (.int r9) ∧ Q r9 w9) (fun _ _ => False) :=
  Ct.of hl0 (by decide) (by simp [lg_sl, bw_cat, cat_i, cat_j]) (fun p e s m args below meth c A ls C hW hl => k_Mo_atEnd_0 C x0 x1 w hq s.heap [] 0 0 ls hW (by simpa [lv_args, bw_cat, cat_i, cat_j] using hl) (Nat.le_refl _) (Nat.le_refl _))
def wb_Mo_goesBy_53 (e0 mi : Nat) (Q : Int32 → Wd → Prop) (x0 : Nat) (x1 : Int32) (z0 : Int32) (w : Wd) : Prop :=
  Q z0 w
set_option maxHeartbeats 4000000 in
set_option maxRecDepth 100000 in
theorem k_Mo_goesBy_53 {p : Program} {l : Launch} {e : Env} {s : State} {m : MethodId} {args : Array Value} {below : List Frame} {meth : Method} {c : Code} {D : va_G} {AC : Nat → ClassId} {e0 mi : Nat} {A : Nat → Prop} {mc ms : Nat} {Q : Int32 → Wd → Prop} (C : Cx p l s m args meth c D AC e0 mi A n_Mo_goesBy b_Mo_goesBy 2 (some .int)) (x0 : Nat) (x1 : Int32) (z0 : Int32) (w : Wd) (hq : wb_Mo_goesBy_53 e0 mi Q x0 x1 z0 w) : ∀ (H : Heap) (locs : List Loc) (cells slots : Nat) (ls : Array Slot), HW D cls8 FTc AC A s.heap H locs w → lv_has ls 2 [(0, va_rf (some x0)), (1, .int x1)] → cells ≤ mc → slots ≤ ms → W p l e { frames := 0, cells := mc, slots := ms, locals := 0 } s m args below meth c H locs cells slots (vx_MQ below (QQ D AC A (fun v w9 => ∃ r9 : Int32, v = some (.int r9) ∧ Q r9 w9)) (XX D AC A (fun _ _ => False)) args s mc ms A) (F0 m 53 ls [.int z0]) := by
  obtain ⟨hl0, hx, hb, hr, ht, hown, hlocks, hnm, hml, hex, hK, hA, hZ, hV⟩ := id C
  intro H locs cells slots ls hW hl hc hs
  unfold wb_Mo_goesBy_53 at hq
  exact bw_iret C hW ⟨_, rfl, hq⟩ d_Mo_goesBy_53 hc hs
def wp_Mo_goesBy (e0 mi : Nat) (x0 : Nat) (x1 : Int32) (w : Wd) (Q : Int32 → Wd → Prop) : Prop :=
  bw_is w x0 6 ∧ (∃ a2 : Nat, (wR w x0 14) = some a2 ∧ (bw_is w a2 101 ∧ (vp_in x1 (wN w a2) ∧ (∃ a5 : Nat, (wR w x0 17) = some a5 ∧ (bw_is w a5 101 ∧ (vp_in x1 (wN w a5) ∧ (∃ a8 : Nat, (wR w x0 7) = some a8 ∧ (bw_is w a8 101 ∧ (vp_in (((2 : Int32) * (wI w a2 x1.toNatClampNeg)) + (wI w a5 x1.toNatClampNeg)) (wN w a8) ∧ (((wI w a8 (((2 : Int32) * (wI w a2 x1.toNatClampNeg)) + (wI w a5 x1.toNatClampNeg)).toNatClampNeg) = (-1 : Int32) → (vp_in x1 (wN w a2) ∧ (vp_in ((2 : Int32) * (wI w a2 x1.toNatClampNeg)) (wN w a8) ∧ (((wI w a8 ((2 : Int32) * (wI w a2 x1.toNatClampNeg)).toNatClampNeg) = (-1 : Int32) → (wb_Mo_goesBy_53 e0 mi Q x0 x1 (-1 : Int32) w)) ∧ (¬ (wI w a8 ((2 : Int32) * (wI w a2 x1.toNatClampNeg)).toNatClampNeg) = (-1 : Int32) → (wb_Mo_goesBy_53 e0 mi Q x0 x1 (0 : Int32) w)))))) ∧ (¬ (wI w a8 (((2 : Int32) * (wI w a2 x1.toNatClampNeg)) + (wI w a5 x1.toNatClampNeg)).toNatClampNeg) = (-1 : Int32) → (vp_in x1 (wN w a5) ∧ (Q (wI w a5 x1.toNatClampNeg) w)))))))))))))
set_option maxHeartbeats 4000000 in
set_option maxRecDepth 100000 in
theorem k_Mo_goesBy_0 {p : Program} {l : Launch} {e : Env} {s : State} {m : MethodId} {args : Array Value} {below : List Frame} {meth : Method} {c : Code} {D : va_G} {AC : Nat → ClassId} {e0 mi : Nat} {A : Nat → Prop} {mc ms : Nat} {Q : Int32 → Wd → Prop} (C : Cx p l s m args meth c D AC e0 mi A n_Mo_goesBy b_Mo_goesBy 2 (some .int)) (x0 : Nat) (x1 : Int32) (w : Wd) (hq : wp_Mo_goesBy e0 mi x0 x1 w Q) : ∀ (H : Heap) (locs : List Loc) (cells slots : Nat) (ls : Array Slot), HW D cls8 FTc AC A s.heap H locs w → lv_has ls 2 [(0, va_rf (some x0)), (1, .int x1)] → cells ≤ mc → slots ≤ ms → W p l e { frames := 0, cells := mc, slots := ms, locals := 0 } s m args below meth c H locs cells slots (vx_MQ below (QQ D AC A (fun v w9 => ∃ r9 : Int32, v = some (.int r9) ∧ Q r9 w9)) (XX D AC A (fun _ _ => False)) args s mc ms A) (F0 m 0 ls []) := by
  obtain ⟨hl0, hx, hb, hr, ht, hown, hlocks, hnm, hml, hex, hK, hA, hZ, hV⟩ := id C
  intro H locs cells slots ls hW hl hc hs
  unfold wp_Mo_goesBy at hq
  refine bw_aload_n hx hb d_Mo_goesBy_0 rfl (lv_at hl 0 rfl) ?_
  obtain ⟨t1, hq⟩ := hq
  refine bw_getR hx hb ht in_Mo hown hK hW rfl t1 (by decide) rfl 7 (by decide) rfl (ht _ m_751) (fun _ h => h) d_Mo_goesBy_1 ?_
  refine lv_iconst (v := 2) hx hb d_Mo_goesBy_4 (by decide) ?_
  refine bw_aload_n hx hb d_Mo_goesBy_5 rfl (lv_at hl 0 rfl) ?_
  refine bw_getR hx hb ht in_Mo hown hK hW rfl t1 (by decide) rfl 14 (by decide) rfl (ht _ m_758) (fun _ h => h) d_Mo_goesBy_6 ?_
  refine lv_iload_n hx hb d_Mo_goesBy_9 rfl (lv_at hl 1 rfl) ?_
  obtain ⟨a2, ea2, hq⟩ := hq
  obtain ⟨t3, hq⟩ := hq
  obtain ⟨h4, hq⟩ := hq
  refine bw_iald C hW ea2 t3 h4 d_Mo_goesBy_10 ?_
  refine lv_imul hx hb d_Mo_goesBy_11 ?_
  refine bw_aload_n hx hb d_Mo_goesBy_12 rfl (lv_at hl 0 rfl) ?_
  refine bw_getR hx hb ht in_Mo hown hK hW rfl t1 (by decide) rfl 17 (by decide) rfl (ht _ m_761) (fun _ h => h) d_Mo_goesBy_13 ?_
  refine lv_iload_n hx hb d_Mo_goesBy_16 rfl (lv_at hl 1 rfl) ?_
  obtain ⟨a5, ea5, hq⟩ := hq
  obtain ⟨t6, hq⟩ := hq
  obtain ⟨h7, hq⟩ := hq
  refine bw_iald C hW ea5 t6 h7 d_Mo_goesBy_17 ?_
  refine lv_iadd hx hb d_Mo_goesBy_18 ?_
  obtain ⟨a8, ea8, hq⟩ := hq
  obtain ⟨t9, hq⟩ := hq
  obtain ⟨h10, hq⟩ := hq
  refine bw_iald C hW ea8 t9 h10 d_Mo_goesBy_19 ?_
  refine lv_iconst (v := (-1)) hx hb d_Mo_goesBy_20 (by decide) ?_
  refine lv_icmp_eq (tgt := 31) hx hb d_Mo_goesBy_21 (by decide) (fun c11 => ?_) (fun c11 => ?_)
  · have hq := hq.1 c11
    refine bw_aload_n hx hb d_Mo_goesBy_31 rfl (lv_at hl 0 rfl) ?_
    refine bw_getR hx hb ht in_Mo hown hK hW rfl t1 (by decide) rfl 7 (by decide) rfl (ht _ m_751) (fun _ h => h) d_Mo_goesBy_32 ?_
    refine lv_iconst (v := 2) hx hb d_Mo_goesBy_35 (by decide) ?_
    refine bw_aload_n hx hb d_Mo_goesBy_36 rfl (lv_at hl 0 rfl) ?_
    refine bw_getR hx hb ht in_Mo hown hK hW rfl t1 (by decide) rfl 14 (by decide) rfl (ht _ m_758) (fun _ h => h) d_Mo_goesBy_37 ?_
    refine lv_iload_n hx hb d_Mo_goesBy_40 rfl (lv_at hl 1 rfl) ?_
    obtain ⟨h12, hq⟩ := hq
    refine bw_iald C hW ea2 t3 h12 d_Mo_goesBy_41 ?_
    refine lv_imul hx hb d_Mo_goesBy_42 ?_
    obtain ⟨h13, hq⟩ := hq
    refine bw_iald C hW ea8 t9 h13 d_Mo_goesBy_43 ?_
    refine lv_iconst (v := (-1)) hx hb d_Mo_goesBy_44 (by decide) ?_
    refine lv_icmp_eq (tgt := 52) hx hb d_Mo_goesBy_45 (by decide) (fun c14 => ?_) (fun c14 => ?_)
    · have hq := hq.1 c14
      refine lv_iconst (v := (-1)) hx hb d_Mo_goesBy_52 (by decide) ?_
      exact k_Mo_goesBy_53 C  _ _ _ _ hq _ _ _ _ _ hW (lv_sub hl [0, 1] rfl) hc hs
    · have hq := hq.2 c14
      refine lv_iconst (v := 0) hx hb d_Mo_goesBy_48 (by decide) ?_
      refine lv_goto (tgt := 53) hx hb d_Mo_goesBy_49 (by decide) ?_
      exact k_Mo_goesBy_53 C  _ _ _ _ hq _ _ _ _ _ hW (lv_sub hl [0, 1] rfl) hc hs
  · have hq := hq.2 c11
    refine bw_aload_n hx hb d_Mo_goesBy_24 rfl (lv_at hl 0 rfl) ?_
    refine bw_getR hx hb ht in_Mo hown hK hW rfl t1 (by decide) rfl 17 (by decide) rfl (ht _ m_761) (fun _ h => h) d_Mo_goesBy_25 ?_
    refine lv_iload_n hx hb d_Mo_goesBy_28 rfl (lv_at hl 1 rfl) ?_
    obtain ⟨h15, hq⟩ := hq
    refine bw_iald C hW ea5 t6 h15 d_Mo_goesBy_29 ?_
    exact bw_iret C hW ⟨_, rfl, hq⟩ d_Mo_goesBy_30 hc hs
theorem ci_Mo_goesBy : CI n_Mo_goesBy b_Mo_goesBy 2 (some .int) 1 := ⟨m_923, m_5, by decide, by decide, by decide +kernel⟩
theorem sel_Mo_goesBy : Cond.selects "BeltRowsModel" n_Mo_goesBy n_Mo_goesBy ∈ TBL := List.mem_filter.mpr ⟨List.mem_append_left _ (List.mem_map.mpr ⟨(n_Mo_goesBy, 32), by decide +kernel, rfl⟩), rfl⟩
theorem c_Mo_goesBy {l : Launch} {D : va_G} {AC : Nat → ClassId} {e0 mi : Nat} {Q : Int32 → Wd → Prop} (hl0 : l.stackTraces = false) (x0 : Nat) (x1 : Int32) (w : Wd) (hq : wp_Mo_goesBy e0 mi x0 x1 w Q) : Ct l D AC e0 mi n_Mo_goesBy (wy n_Mo_goesBy b_Mo_goesBy 2 (some .int)) 0 0 [va_rf (some x0), .int x1] w 0 0 (fun v w9 => ∃ r9 : Int32, v = some (.int r9) ∧ Q r9 w9) (fun _ _ => False) :=
  Ct.of hl0 (by decide) (by simp [lg_sl, bw_cat, cat_i, cat_j]) (fun p e s m args below meth c A ls C hW hl => k_Mo_goesBy_0 C x0 x1 w hq s.heap [] 0 0 ls hW (by simpa [lv_args, bw_cat, cat_i, cat_j] using hl) (Nat.le_refl _) (Nat.le_refl _))
def wb_Mo_indexOf_2 (e0 mi : Nat) (Q : Int32 → Wd → Prop) : Nat → Nat → Int32 → Int32 → Wd → Prop
  | 0, _, _, _, _ => False
  | n + 1, x0, x1, x2, w => bw_is w x0 6 ∧ (∃ a2 : Nat, (wR w x0 14) = some a2 ∧ (bw_is w a2 101 ∧ (vp_in x1 (wN w a2) ∧ (∃ a5 : Nat, (wR w x0 11) = some a5 ∧ (bw_is w a5 101 ∧ (vp_in (((60 : Int32) * (wI w a2 x1.toNatClampNeg)) + x2) (wN w a5) ∧ (((wI w a5 (((60 : Int32) * (wI w a2 x1.toNatClampNeg)) + x2).toNatClampNeg) = x1 → (Q x2 w)) ∧ (¬ (wI w a5 (((60 : Int32) * (wI w a2 x1.toNatClampNeg)) + x2).toNatClampNeg) = x1 → (∀ i9 : Int32, i9 = x2 + 1 → ((wb_Mo_indexOf_2 e0 mi Q n) x0 x1 i9 w))))))))))
set_option maxHeartbeats 4000000 in
set_option maxRecDepth 100000 in
theorem k_Mo_indexOf_2 {p : Program} {l : Launch} {e : Env} {s : State} {m : MethodId} {args : Array Value} {below : List Frame} {meth : Method} {c : Code} {D : va_G} {AC : Nat → ClassId} {e0 mi : Nat} {A : Nat → Prop} {mc ms : Nat} {Q : Int32 → Wd → Prop} (C : Cx p l s m args meth c D AC e0 mi A n_Mo_indexOf b_Mo_indexOf 3 (some .int)) : ∀ (n : Nat) (x0 : Nat) (x1 : Int32) (x2 : Int32) (w : Wd), wb_Mo_indexOf_2 e0 mi Q n x0 x1 x2 w → ∀ (H : Heap) (locs : List Loc) (cells slots : Nat) (ls : Array Slot), HW D cls8 FTc AC A s.heap H locs w → lv_has ls 3 [(0, va_rf (some x0)), (1, .int x1), (2, .int x2)] → cells ≤ mc → slots ≤ ms → W p l e { frames := 0, cells := mc, slots := ms, locals := 0 } s m args below meth c H locs cells slots (vx_MQ below (QQ D AC A (fun v w9 => ∃ r9 : Int32, v = some (.int r9) ∧ Q r9 w9)) (XX D AC A (fun _ _ => False)) args s mc ms A) (F0 m 2 ls []) := by
  obtain ⟨hl0, hx, hb, hr, ht, hown, hlocks, hnm, hml, hex, hK, hA, hZ, hV⟩ := id C
  intro n
  induction n with
  | zero =>
    intro x0 x1 x2 w hq
    exact hq.elim
  | succ n ih =>
    intro x0 x1 x2 w hq H locs cells slots ls hW hl hc hs
    have hK2 := ih
    unfold wb_Mo_indexOf_2 at hq
    refine bw_aload_n hx hb d_Mo_indexOf_2 rfl (lv_at hl 0 rfl) ?_
    obtain ⟨t1, hq⟩ := hq
    refine bw_getR hx hb ht in_Mo hown hK hW rfl t1 (by decide) rfl 11 (by decide) rfl (ht _ m_755) (fun _ h => h) d_Mo_indexOf_3 ?_
    refine lv_bipush (v := 60) hx hb d_Mo_indexOf_6 (by decide) ?_
    refine bw_aload_n hx hb d_Mo_indexOf_8 rfl (lv_at hl 0 rfl) ?_
    refine bw_getR hx hb ht in_Mo hown hK hW rfl t1 (by decide) rfl 14 (by decide) rfl (ht _ m_758) (fun _ h => h) d_Mo_indexOf_9 ?_
    refine lv_iload_n hx hb d_Mo_indexOf_12 rfl (lv_at hl 1 rfl) ?_
    obtain ⟨a2, ea2, hq⟩ := hq
    obtain ⟨t3, hq⟩ := hq
    obtain ⟨h4, hq⟩ := hq
    refine bw_iald C hW ea2 t3 h4 d_Mo_indexOf_13 ?_
    refine lv_imul hx hb d_Mo_indexOf_14 ?_
    refine lv_iload_n hx hb d_Mo_indexOf_15 rfl (lv_at hl 2 rfl) ?_
    refine lv_iadd hx hb d_Mo_indexOf_16 ?_
    obtain ⟨a5, ea5, hq⟩ := hq
    obtain ⟨t6, hq⟩ := hq
    obtain ⟨h7, hq⟩ := hq
    refine bw_iald C hW ea5 t6 h7 d_Mo_indexOf_17 ?_
    refine lv_iload_n hx hb d_Mo_indexOf_18 rfl (lv_at hl 1 rfl) ?_
    refine lv_icmp_eq (tgt := 28) hx hb d_Mo_indexOf_19 (by decide) (fun c8 => ?_) (fun c8 => ?_)
    · have hq := hq.1 c8
      refine lv_iload_n hx hb d_Mo_indexOf_28 rfl (lv_at hl 2 rfl) ?_
      exact bw_iret C hW ⟨_, rfl, hq⟩ d_Mo_indexOf_29 hc hs
    · have hq := hq.2 c8
      obtain ⟨i9, ei9⟩ : ∃ y : Int32, y = x2 + 1 := ⟨_, rfl⟩
      have hq := hq i9 ei9
      refine lv_iinc (v := i9) (lv' := [(2, .int i9), (0, va_rf (some x0)), (1, .int x1)]) hx hb d_Mo_indexOf_22 hl (k := 2) rfl (by rw [ei9]; rfl) (by decide) (by simp [bw_cat, cat_i, cat_j]) (fun ls hl => ?_)
      refine lv_goto (tgt := 2) hx hb d_Mo_indexOf_25 (by decide) ?_
      exact hK2 _ _ _ _ hq _ _ _ _ _ hW (lv_sub hl [1, 2, 0] rfl) hc hs
def wp_Mo_indexOf (e0 mi : Nat) (x0 : Nat) (x1 : Int32) (w : Wd) (Q : Int32 → Wd → Prop) : Prop :=
  ∃ n1 : Nat, wb_Mo_indexOf_2 e0 mi Q n1 x0 x1 (0 : Int32) w
set_option maxHeartbeats 4000000 in
set_option maxRecDepth 100000 in
theorem k_Mo_indexOf_0 {p : Program} {l : Launch} {e : Env} {s : State} {m : MethodId} {args : Array Value} {below : List Frame} {meth : Method} {c : Code} {D : va_G} {AC : Nat → ClassId} {e0 mi : Nat} {A : Nat → Prop} {mc ms : Nat} {Q : Int32 → Wd → Prop} (C : Cx p l s m args meth c D AC e0 mi A n_Mo_indexOf b_Mo_indexOf 3 (some .int)) (x0 : Nat) (x1 : Int32) (w : Wd) (hq : wp_Mo_indexOf e0 mi x0 x1 w Q) : ∀ (H : Heap) (locs : List Loc) (cells slots : Nat) (ls : Array Slot), HW D cls8 FTc AC A s.heap H locs w → lv_has ls 3 [(0, va_rf (some x0)), (1, .int x1)] → cells ≤ mc → slots ≤ ms → W p l e { frames := 0, cells := mc, slots := ms, locals := 0 } s m args below meth c H locs cells slots (vx_MQ below (QQ D AC A (fun v w9 => ∃ r9 : Int32, v = some (.int r9) ∧ Q r9 w9)) (XX D AC A (fun _ _ => False)) args s mc ms A) (F0 m 0 ls []) := by
  obtain ⟨hl0, hx, hb, hr, ht, hown, hlocks, hnm, hml, hex, hK, hA, hZ, hV⟩ := id C
  intro H locs cells slots ls hW hl hc hs
  unfold wp_Mo_indexOf at hq
  refine lv_iconst (v := 0) hx hb d_Mo_indexOf_0 (by decide) ?_
  refine lv_istore_n (i := 2) (lv' := [(2, .int (0 : Int32)), (0, va_rf (some x0)), (1, .int x1)]) hx hb d_Mo_indexOf_1 rfl hl (by decide) (by simp [bw_cat, cat_i, cat_j]) (fun ls hl => ?_)
  obtain ⟨n1, hq⟩ := hq
  exact k_Mo_indexOf_2 C  n1 _ _ _ _ hq _ _ _ _ _ hW (lv_sub hl [1, 2, 0] rfl) hc hs
theorem ci_Mo_indexOf : CI n_Mo_indexOf b_Mo_indexOf 3 (some .int) 1 := ⟨m_931, m_5, by decide, by decide, by decide +kernel⟩
theorem sel_Mo_indexOf : Cond.selects "BeltRowsModel" n_Mo_indexOf n_Mo_indexOf ∈ TBL := List.mem_filter.mpr ⟨List.mem_append_left _ (List.mem_map.mpr ⟨(n_Mo_indexOf, 32), by decide +kernel, rfl⟩), rfl⟩
theorem c_Mo_indexOf {l : Launch} {D : va_G} {AC : Nat → ClassId} {e0 mi : Nat} {Q : Int32 → Wd → Prop} (hl0 : l.stackTraces = false) (x0 : Nat) (x1 : Int32) (w : Wd) (hq : wp_Mo_indexOf e0 mi x0 x1 w Q) : Ct l D AC e0 mi n_Mo_indexOf (wy n_Mo_indexOf b_Mo_indexOf 3 (some .int)) 0 0 [va_rf (some x0), .int x1] w 0 0 (fun v w9 => ∃ r9 : Int32, v = some (.int r9) ∧ Q r9 w9) (fun _ _ => False) :=
  Ct.of hl0 (by decide) (by simp [lg_sl, bw_cat, cat_i, cat_j]) (fun p e s m args below meth c A ls C hW hl => k_Mo_indexOf_0 C x0 x1 w hq s.heap [] 0 0 ls hW (by simpa [lv_args, bw_cat, cat_i, cat_j] using hl) (Nat.le_refl _) (Nat.le_refl _))
def wb_Mo_leave_26 (e0 mi : Nat) (Q : Wd → Prop) : Nat → Nat → Int32 → Int32 → Int32 → Int32 → Wd → Prop
  | 0, _, _, _, _, _, _ => False
  | n + 1, x0, x1, x2, x3, x4, w => bw_is w x0 6 ∧ (∃ a2 : Nat, (wR w x0 10) = some a2 ∧ (bw_is w a2 101 ∧ (vp_in x2 (wN w a2) ∧ (((wI w a2 x2.toNatClampNeg) ≤ x4 → (Q w)) ∧ (¬ (wI w a2 x2.toNatClampNeg) ≤ x4 → (∃ a6 : Nat, (wR w x0 11) = some a6 ∧ (bw_is w a6 101 ∧ (vp_in ((((60 : Int32) * x2) + x4) + (1 : Int32)) (wN w a6) ∧ (vp_in (((60 : Int32) * x2) + x4) (wN w a6) ∧ (∀ i10 : Int32, i10 = x4 + 1 → ((wb_Mo_leave_26 e0 mi Q n) x0 x1 x2 x3 i10 (sI w a6 (((60 : Int32) * x2) + x4).toNatClampNeg (wI w a6 ((((60 : Int32) * x2) + x4) + (1 : Int32)).toNatClampNeg)))))))))))))
set_option maxHeartbeats 4000000 in
set_option maxRecDepth 100000 in
theorem k_Mo_leave_26 {p : Program} {l : Launch} {e : Env} {s : State} {m : MethodId} {args : Array Value} {below : List Frame} {meth : Method} {c : Code} {D : va_G} {AC : Nat → ClassId} {e0 mi : Nat} {A : Nat → Prop} {mc ms : Nat} {Q : Wd → Prop} (C : Cx p l s m args meth c D AC e0 mi A n_Mo_leave b_Mo_leave 5 none) : ∀ (n : Nat) (x0 : Nat) (x1 : Int32) (x2 : Int32) (x3 : Int32) (x4 : Int32) (w : Wd), wb_Mo_leave_26 e0 mi Q n x0 x1 x2 x3 x4 w → ∀ (H : Heap) (locs : List Loc) (cells slots : Nat) (ls : Array Slot), HW D cls8 FTc AC A s.heap H locs w → lv_has ls 5 [(0, va_rf (some x0)), (1, .int x1), (2, .int x2), (3, .int x3), (4, .int x4)] → cells ≤ mc → slots ≤ ms → W p l e { frames := 1, cells := mc, slots := ms, locals := 22 } s m args below meth c H locs cells slots (vx_MQ below (QQ D AC A (fun v w9 => v = none ∧ Q w9)) (XX D AC A (fun _ _ => False)) args s mc ms A) (F0 m 26 ls []) := by
  obtain ⟨hl0, hx, hb, hr, ht, hown, hlocks, hnm, hml, hex, hK, hA, hZ, hV⟩ := id C
  intro n
  induction n with
  | zero =>
    intro x0 x1 x2 x3 x4 w hq
    exact hq.elim
  | succ n ih =>
    intro x0 x1 x2 x3 x4 w hq H locs cells slots ls hW hl hc hs
    have hK26 := ih
    unfold wb_Mo_leave_26 at hq
    refine lv_iload hx hb d_Mo_leave_26 (lv_at hl 4 rfl) ?_
    refine bw_aload_n hx hb d_Mo_leave_28 rfl (lv_at hl 0 rfl) ?_
    obtain ⟨t1, hq⟩ := hq
    refine bw_getR hx hb ht in_Mo hown hK hW rfl t1 (by decide) rfl 10 (by decide) rfl (ht _ m_754) (fun _ h => h) d_Mo_leave_29 ?_
    refine lv_iload_n hx hb d_Mo_leave_32 rfl (lv_at hl 2 rfl) ?_
    obtain ⟨a2, ea2, hq⟩ := hq
    obtain ⟨t3, hq⟩ := hq
    obtain ⟨h4, hq⟩ := hq
    refine bw_iald C hW ea2 t3 h4 d_Mo_leave_33 ?_
    refine lv_icmp_ge (tgt := 69) hx hb d_Mo_leave_34 (by decide) (fun c5 => ?_) (fun c5 => ?_)
    · have hq := hq.1 c5
      exact bw_vret C hW ⟨rfl, hq⟩ d_Mo_leave_69 hc hs
    · have hq := hq.2 c5
      refine bw_aload_n hx hb d_Mo_leave_37 rfl (lv_at hl 0 rfl) ?_
      refine bw_getR hx hb ht in_Mo hown hK hW rfl t1 (by decide) rfl 11 (by decide) rfl (ht _ m_755) (fun _ h => h) d_Mo_leave_38 ?_
      refine lv_bipush (v := 60) hx hb d_Mo_leave_41 (by decide) ?_
      refine lv_iload_n hx hb d_Mo_leave_43 rfl (lv_at hl 2 rfl) ?_
      refine lv_imul hx hb d_Mo_leave_44 ?_
      refine lv_iload hx hb d_Mo_leave_45 (lv_at hl 4 rfl) ?_
      refine lv_iadd hx hb d_Mo_leave_47 ?_
      refine bw_aload_n hx hb d_Mo_leave_48 rfl (lv_at hl 0 rfl) ?_
      refine bw_getR hx hb ht in_Mo hown hK hW rfl t1 (by decide) rfl 11 (by decide) rfl (ht _ m_755) (fun _ h => h) d_Mo_leave_49 ?_
      refine lv_bipush (v := 60) hx hb d_Mo_leave_52 (by decide) ?_
      refine lv_iload_n hx hb d_Mo_leave_54 rfl (lv_at hl 2 rfl) ?_
      refine lv_imul hx hb d_Mo_leave_55 ?_
      refine lv_iload hx hb d_Mo_leave_56 (lv_at hl 4 rfl) ?_
      refine lv_iadd hx hb d_Mo_leave_58 ?_
      refine lv_iconst (v := 1) hx hb d_Mo_leave_59 (by decide) ?_
      refine lv_iadd hx hb d_Mo_leave_60 ?_
      obtain ⟨a6, ea6, hq⟩ := hq
      obtain ⟨t7, hq⟩ := hq
      obtain ⟨h8, hq⟩ := hq
      refine bw_iald C hW ea6 t7 h8 d_Mo_leave_61 ?_
      obtain ⟨h9, hq⟩ := hq
      refine bw_iast C hW ea6 t7 h9 d_Mo_leave_62 (fun H locs hW => ?_)
      obtain ⟨i10, ei10⟩ : ∃ y : Int32, y = x4 + 1 := ⟨_, rfl⟩
      have hq := hq i10 ei10
      refine lv_iinc (v := i10) (lv' := [(4, .int i10), (0, va_rf (some x0)), (1, .int x1), (2, .int x2), (3, .int x3)]) hx hb d_Mo_leave_63 hl (k := 4) rfl (by rw [ei10]; rfl) (by decide) (by simp [bw_cat, cat_i, cat_j]) (fun ls hl => ?_)
      refine lv_goto (tgt := 26) hx hb d_Mo_leave_66 (by decide) ?_
      exact hK26 _ _ _ _ _ _ hq _ _ _ _ _ hW (lv_sub hl [1, 2, 3, 4, 0] rfl) hc hs
def wp_Mo_leave (e0 mi : Nat) (x0 : Nat) (x1 : Int32) (w : Wd) (Q : Wd → Prop) : Prop :=
  bw_is w x0 6 ∧ (∃ a2 : Nat, (wR w x0 14) = some a2 ∧ (bw_is w a2 101 ∧ (vp_in x1 (wN w a2) ∧ (∀ i5 : Int32, i5 = wI w a2 x1.toNatClampNeg → (wp_Mo_indexOf e0 mi x0 x1 w (fun i12 w7 => bw_is w7 x0 6 ∧ (∃ a14 : Nat, (wR w7 x0 10) = some a14 ∧ (bw_is w7 a14 101 ∧ (vp_in i5 (wN w7 a14) ∧ (vp_in i5 (wN w7 a14) ∧ (∃ n18 : Nat, wb_Mo_leave_26 e0 mi Q n18 x0 x1 i5 i12 i12 (sI w7 a14 i5.toNatClampNeg ((wI w7 a14 i5.toNatClampNeg) - (1 : Int32))))))))))))))
set_option maxHeartbeats 4000000 in
set_option maxRecDepth 100000 in
theorem k_Mo_leave_0 {p : Program} {l : Launch} {e : Env} {s : State} {m : MethodId} {args : Array Value} {below : List Frame} {meth : Method} {c : Code} {D : va_G} {AC : Nat → ClassId} {e0 mi : Nat} {A : Nat → Prop} {mc ms : Nat} {Q : Wd → Prop} (C : Cx p l s m args meth c D AC e0 mi A n_Mo_leave b_Mo_leave 5 none) (x0 : Nat) (x1 : Int32) (w : Wd) (hq : wp_Mo_leave e0 mi x0 x1 w Q) : ∀ (H : Heap) (locs : List Loc) (cells slots : Nat) (ls : Array Slot), HW D cls8 FTc AC A s.heap H locs w → lv_has ls 5 [(0, va_rf (some x0)), (1, .int x1)] → cells ≤ mc → slots ≤ ms → W p l e { frames := 1, cells := mc, slots := ms, locals := 22 } s m args below meth c H locs cells slots (vx_MQ below (QQ D AC A (fun v w9 => v = none ∧ Q w9)) (XX D AC A (fun _ _ => False)) args s mc ms A) (F0 m 0 ls []) := by
  obtain ⟨hl0, hx, hb, hr, ht, hown, hlocks, hnm, hml, hex, hK, hA, hZ, hV⟩ := id C
  intro H locs cells slots ls hW hl hc hs
  unfold wp_Mo_leave at hq
  refine bw_aload_n hx hb d_Mo_leave_0 rfl (lv_at hl 0 rfl) ?_
  obtain ⟨t1, hq⟩ := hq
  refine bw_getR hx hb ht in_Mo hown hK hW rfl t1 (by decide) rfl 14 (by decide) rfl (ht _ m_758) (fun _ h => h) d_Mo_leave_1 ?_
  refine lv_iload_n hx hb d_Mo_leave_4 rfl (lv_at hl 1 rfl) ?_
  obtain ⟨a2, ea2, hq⟩ := hq
  obtain ⟨t3, hq⟩ := hq
  obtain ⟨h4, hq⟩ := hq
  refine bw_iald C hW ea2 t3 h4 d_Mo_leave_5 ?_
  refine lv_topi (fun i5 ei5 => ?_)
  have hq := hq i5 ei5
  refine lv_istore_n (i := 2) (lv' := [(2, .int i5), (0, va_rf (some x0)), (1, .int x1)]) hx hb d_Mo_leave_6 rfl hl (by decide) (by simp [bw_cat, cat_i, cat_j]) (fun ls hl => ?_)
  refine bw_aload_n hx hb d_Mo_leave_7 rfl (lv_at hl 1 rfl) ?_
  refine lv_iload_n hx hb d_Mo_leave_8 rfl (lv_at hl 2 rfl) ?_
  refine bw_callV (As := [.int x1]) (rest := []) C hW ci_Mo_indexOf m_928 m_930 sel_Mo_indexOf d_Mo_leave_9 rfl t1 (by decide) rfl rfl rfl hl.1 (by decide) ⟨Nat.le_of_ble_eq_true rfl, Nat.le_of_ble_eq_true rfl⟩ ⟨hc, hs⟩ (c_Mo_indexOf hl0 _ _ _ hq) (fun _ _ _ _ _ _ h => h.elim) (fun v6 w7 H locs hv hW => ?_)
  obtain ⟨i12, rfl, hq⟩ := hv
  refine W.eq (g2 := F0 m 12 ls [.int i12]) rfl ?_
  refine lv_istore_n (i := 3) (lv' := [(3, .int i12), (2, .int i5), (0, va_rf (some x0)), (1, .int x1)]) hx hb d_Mo_leave_12 rfl hl (by decide) (by simp [bw_cat, cat_i, cat_j]) (fun ls hl => ?_)
  refine bw_aload_n hx hb d_Mo_leave_13 rfl (lv_at hl 2 rfl) ?_
  obtain ⟨t13, hq⟩ := hq
  refine bw_getR hx hb ht in_Mo hown hK hW rfl t13 (by decide) rfl 10 (by decide) rfl (ht _ m_754) (fun _ h => h) d_Mo_leave_14 ?_
  refine lv_iload_n hx hb d_Mo_leave_17 rfl (lv_at hl 1 rfl) ?_
  refine lv_dup2_11 hx hb d_Mo_leave_18 rfl (bw_cat _) ?_
  obtain ⟨a14, ea14, hq⟩ := hq
  obtain ⟨t15, hq⟩ := hq
  obtain ⟨h16, hq⟩ := hq
  refine bw_iald C hW ea14 t15 h16 d_Mo_leave_19 ?_
  refine lv_iconst (v := 1) hx hb d_Mo_leave_20 (by decide) ?_
  refine lv_isub hx hb d_Mo_leave_21 ?_
  obtain ⟨h17, hq⟩ := hq
  refine bw_iast C hW ea14 t15 h17 d_Mo_leave_22 (fun H locs hW => ?_)
  refine lv_iload_n hx hb d_Mo_leave_23 rfl (lv_at hl 0 rfl) ?_
  refine lv_istore (lv' := [(4, .int i12), (3, .int i12), (2, .int i5), (0, va_rf (some x0)), (1, .int x1)]) hx hb d_Mo_leave_24 hl (by decide) (by simp [bw_cat, cat_i, cat_j]) (fun ls hl => ?_)
  obtain ⟨n18, hq⟩ := hq
  exact k_Mo_leave_26 C  n18 _ _ _ _ _ _ hq _ _ _ _ _ hW (lv_sub hl [3, 4, 2, 1, 0] rfl) hc hs
theorem ci_Mo_leave : CI n_Mo_leave b_Mo_leave 5 none 1 := ⟨m_927, m_5, by decide, by decide, by decide +kernel⟩
theorem sel_Mo_leave : Cond.selects "BeltRowsModel" n_Mo_leave n_Mo_leave ∈ TBL := List.mem_filter.mpr ⟨List.mem_append_left _ (List.mem_map.mpr ⟨(n_Mo_leave, 32), by decide +kernel, rfl⟩), rfl⟩
theorem c_Mo_leave {l : Launch} {D : va_G} {AC : Nat → ClassId} {e0 mi : Nat} {Q : Wd → Prop} (hl0 : l.stackTraces = false) (x0 : Nat) (x1 : Int32) (w : Wd) (hq : wp_Mo_leave e0 mi x0 x1 w Q) : Ct l D AC e0 mi n_Mo_leave (wy n_Mo_leave b_Mo_leave 5 none) 1 22 [va_rf (some x0), .int x1] w 0 0 (fun v w9 => v = none ∧ Q w9) (fun _ _ => False) :=
  Ct.of hl0 (by decide) (by simp [lg_sl, bw_cat, cat_i, cat_j]) (fun p e s m args below meth c A ls C hW hl => k_Mo_leave_0 C x0 x1 w hq s.heap [] 0 0 ls hW (by simpa [lv_args, bw_cat, cat_i, cat_j] using hl) (Nat.le_refl _) (Nat.le_refl _))
def wb_Mo_exchange_201 (e0 mi : Nat) (K92 : Nat → Int32 → Int32 → Int32 → Int32 → Wd → Prop) (Q : Wd → Prop) (x0 : Nat) (x1 : Int32) (x2 : Int32) (x3 : Int32) (x4 : Int32) (x5 : Int32) (w : Wd) : Prop :=
  ∀ i1 : Int32, i1 = x4 + 1 → (K92 x0 x1 x2 x3 i1 w)
set_option maxHeartbeats 4000000 in
set_option maxRecDepth 100000 in
theorem k_Mo_exchange_201 {p : Program} {l : Launch} {e : Env} {s : State} {m : MethodId} {args : Array Value} {below : List Frame} {meth : Method} {c : Code} {D : va_G} {AC : Nat → ClassId} {e0 mi : Nat} {A : Nat → Prop} {mc ms : Nat} {K92 : Nat → Int32 → Int32 → Int32 → Int32 → Wd → Prop} {Q : Wd → Prop} (C : Cx p l s m args meth c D AC e0 mi A n_Mo_exchange b_Mo_exchange 7 none) (hK92 : ∀ (x0 : Nat) (x1 : Int32) (x2 : Int32) (x3 : Int32) (x4 : Int32) (w : Wd), K92 x0 x1 x2 x3 x4 w → ∀ (H : Heap) (locs : List Loc) (cells slots : Nat) (ls : Array Slot), HW D cls8 FTc AC A s.heap H locs w → lv_has ls 7 [(0, va_rf (some x0)), (1, .int x1), (2, .int x2), (3, .int x3), (4, .int x4)] → cells ≤ mc → slots ≤ ms → W p l e { frames := 2, cells := mc, slots := ms, locals := 46 } s m args below meth c H locs cells slots (vx_MQ below (QQ D AC A (fun v w9 => v = none ∧ Q w9)) (XX D AC A (fun _ _ => False)) args s mc ms A) (F0 m 92 ls [])) (x0 : Nat) (x1 : Int32) (x2 : Int32) (x3 : Int32) (x4 : Int32) (x5 : Int32) (w : Wd) (hq : wb_Mo_exchange_201 e0 mi K92 Q x0 x1 x2 x3 x4 x5 w) : ∀ (H : Heap) (locs : List Loc) (cells slots : Nat) (ls : Array Slot), HW D cls8 FTc AC A s.heap H locs w → lv_has ls 7 [(0, va_rf (some x0)), (1, .int x1), (2, .int x2), (3, .int x3), (4, .int x4), (5, .int x5)] → cells ≤ mc → slots ≤ ms → W p l e { frames := 2, cells := mc, slots := ms, locals := 46 } s m args below meth c H locs cells slots (vx_MQ below (QQ D AC A (fun v w9 => v = none ∧ Q w9)) (XX D AC A (fun _ _ => False)) args s mc ms A) (F0 m 201 ls []) := by
  obtain ⟨hl0, hx, hb, hr, ht, hown, hlocks, hnm, hml, hex, hK, hA, hZ, hV⟩ := id C
  intro H locs cells slots ls hW hl hc hs
  unfold wb_Mo_exchange_201 at hq
  obtain ⟨i1, ei1⟩ : ∃ y : Int32, y = x4 + 1 := ⟨_, rfl⟩
  have hq := hq i1 ei1
  refine lv_iinc (v := i1) (lv' := [(4, .int i1), (0, va_rf (some x0)), (1, .int x1), (2, .int x2), (3, .int x3), (5, .int x5)]) hx hb d_Mo_exchange_201 hl (k := 4) rfl (by rw [ei1]; rfl) (by decide) (by simp [bw_cat, cat_i, cat_j]) (fun ls hl => ?_)
  refine lv_goto (tgt := 92) hx hb d_Mo_exchange_204 (by decide) ?_
  exact hK92 _ _ _ _ _ _ hq _ _ _ _ _ hW (lv_sub hl [1, 2, 3, 4, 0] rfl) hc hs
def wb_Mo_exchange_198 (e0 mi : Nat) (K92 : Nat → Int32 → Int32 → Int32 → Int32 → Wd → Prop) (Q : Wd → Prop) (x0 : Nat) (x1 : Int32) (x2 : Int32) (x3 : Int32) (x4 : Int32) (x5 : Int32) (x6 : Int32) (w : Wd) : Prop :=
  wb_Mo_exchange_201 e0 mi K92 Q x0 x1 x2 x6 x4 x5 w
set_option maxHeartbeats 4000000 in
set_option maxRecDepth 100000 in
theorem k_Mo_exchange_198 {p : Program} {l : Launch} {e : Env} {s : State} {m : MethodId} {args : Array Value} {below : List Frame} {meth : Method} {c : Code} {D : va_G} {AC : Nat → ClassId} {e0 mi : Nat} {A : Nat → Prop} {mc ms : Nat} {K92 : Nat → Int32 → Int32 → Int32 → Int32 → Wd → Prop} {Q : Wd → Prop} (C : Cx p l s m args meth c D AC e0 mi A n_Mo_exchange b_Mo_exchange 7 none) (hK92 : ∀ (x0 : Nat) (x1 : Int32) (x2 : Int32) (x3 : Int32) (x4 : Int32) (w : Wd), K92 x0 x1 x2 x3 x4 w → ∀ (H : Heap) (locs : List Loc) (cells slots : Nat) (ls : Array Slot), HW D cls8 FTc AC A s.heap H locs w → lv_has ls 7 [(0, va_rf (some x0)), (1, .int x1), (2, .int x2), (3, .int x3), (4, .int x4)] → cells ≤ mc → slots ≤ ms → W p l e { frames := 2, cells := mc, slots := ms, locals := 46 } s m args below meth c H locs cells slots (vx_MQ below (QQ D AC A (fun v w9 => v = none ∧ Q w9)) (XX D AC A (fun _ _ => False)) args s mc ms A) (F0 m 92 ls [])) (x0 : Nat) (x1 : Int32) (x2 : Int32) (x3 : Int32) (x4 : Int32) (x5 : Int32) (x6 : Int32) (w : Wd) (hq : wb_Mo_exchange_198 e0 mi K92 Q x0 x1 x2 x3 x4 x5 x6 w) : ∀ (H : Heap) (locs : List Loc) (cells slots : Nat) (ls : Array Slot), HW D cls8 FTc AC A s.heap H locs w → lv_has ls 7 [(0, va_rf (some x0)), (1, .int x1), (2, .int x2), (3, .int x3), (4, .int x4), (5, .int x5), (6, .int x6)] → cells ≤ mc → slots ≤ ms → W p l e { frames := 2, cells := mc, slots := ms, locals := 46 } s m args below meth c H locs cells slots (vx_MQ below (QQ D AC A (fun v w9 => v = none ∧ Q w9)) (XX D AC A (fun _ _ => False)) args s mc ms A) (F0 m 198 ls []) := by
  obtain ⟨hl0, hx, hb, hr, ht, hown, hlocks, hnm, hml, hex, hK, hA, hZ, hV⟩ := id C
  intro H locs cells slots ls hW hl hc hs
  unfold wb_Mo_exchange_198 at hq
  refine lv_iload hx hb d_Mo_exchange_198 (lv_at hl 6 rfl) ?_
  refine lv_istore_n (i := 3) (lv' := [(3, .int x6), (0, va_rf (some x0)), (1, .int x1), (2, .int x2), (4, .int x4), (5, .int x5), (6, .int x6)]) hx hb d_Mo_exchange_200 rfl hl (by decide) (by simp [bw_cat, cat_i, cat_j]) (fun ls hl => ?_)
  exact k_Mo_exchange_201 C hK92 _ _ _ _ _ _ _ hq _ _ _ _ _ hW (lv_sub hl [1, 2, 3, 0, 4, 5] rfl) hc hs
def wb_Mo_exchange_118 (e0 mi : Nat) (K92 : Nat → Int32 → Int32 → Int32 → Int32 → Wd → Prop) (Q : Wd → Prop) (x0 : Nat) (x1 : Int32) (x2 : Int32) (x3 : Int32) (x4 : Int32) (z0 : Int32) (w : Wd) : Prop :=
  (z0 = 0 → (wb_Mo_exchange_201 e0 mi K92 Q x0 x1 x2 x3 x4 z0 w)) ∧ (¬ z0 = 0 → (bw_is w x0 6 ∧ (wp_Mo_goesBy e0 mi x0 z0 w (fun i9 w4 => (¬ i9 = (-1 : Int32) → (bw_is w4 x0 6 ∧ (wp_Mo_goesBy e0 mi x0 z0 w4 (fun i18 w13 => ∀ i19 : Int32, i19 = ((2 : Int32) * x4) + i18 → (bw_is w13 x0 6 ∧ (∃ a21 : Nat, (wR w13 x0 7) = some a21 ∧ (bw_is w13 a21 101 ∧ (vp_in i19 (wN w13 a21) ∧ ((¬ (wI w13 a21 i19.toNatClampNeg) = x1 → (wb_Mo_exchange_201 e0 mi K92 Q x0 x1 x2 x3 x4 z0 w13)) ∧ ((wI w13 a21 i19.toNatClampNeg) = x1 → ((x3 = (-1 : Int32) → (wb_Mo_exchange_198 e0 mi K92 Q x0 x1 x2 x3 x4 z0 i19 w13)) ∧ (¬ x3 = (-1 : Int32) → (∃ a26 : Nat, (wR w13 x0 9) = some a26 ∧ (bw_is w13 a26 101 ∧ (vp_in i19 (wN w13 a26) ∧ (∃ a29 : Nat, (wR w13 x0 8) = some a29 ∧ (bw_is w13 a29 101 ∧ (vp_in x3 (wN w13 a29) ∧ (vp_in x3 (wN w13 a26) ∧ (vp_in i19 (wN w13 a29) ∧ ((((wI w13 a26 x3.toNatClampNeg) * (wI w13 a29 i19.toNatClampNeg)) ≤ ((wI w13 a26 i19.toNatClampNeg) * (wI w13 a29 x3.toNatClampNeg)) → (wb_Mo_exchange_201 e0 mi K92 Q x0 x1 x2 x3 x4 z0 w13)) ∧ (¬ ((wI w13 a26 x3.toNatClampNeg) * (wI w13 a29 i19.toNatClampNeg)) ≤ ((wI w13 a26 i19.toNatClampNeg) * (wI w13 a29 x3.toNatClampNeg)) → (wb_Mo_exchange_198 e0 mi K92 Q x0 x1 x2 x3 x4 z0 i19 w13))))))))))))))))))))))) ∧ (i9 = (-1 : Int32) → (wb_Mo_exchange_201 e0 mi K92 Q x0 x1 x2 x3 x4 z0 w4))))))
set_option maxHeartbeats 4000000 in
set_option maxRecDepth 100000 in
theorem k_Mo_exchange_118 {p : Program} {l : Launch} {e : Env} {s : State} {m : MethodId} {args : Array Value} {below : List Frame} {meth : Method} {c : Code} {D : va_G} {AC : Nat → ClassId} {e0 mi : Nat} {A : Nat → Prop} {mc ms : Nat} {K92 : Nat → Int32 → Int32 → Int32 → Int32 → Wd → Prop} {Q : Wd → Prop} (C : Cx p l s m args meth c D AC e0 mi A n_Mo_exchange b_Mo_exchange 7 none) (hK92 : ∀ (x0 : Nat) (x1 : Int32) (x2 : Int32) (x3 : Int32) (x4 : Int32) (w : Wd), K92 x0 x1 x2 x3 x4 w → ∀ (H : Heap) (locs : List Loc) (cells slots : Nat) (ls : Array Slot), HW D cls8 FTc AC A s.heap H locs w → lv_has ls 7 [(0, va_rf (some x0)), (1, .int x1), (2, .int x2), (3, .int x3), (4, .int x4)] → cells ≤ mc → slots ≤ ms → W p l e { frames := 2, cells := mc, slots := ms, locals := 46 } s m args below meth c H locs cells slots (vx_MQ below (QQ D AC A (fun v w9 => v = none ∧ Q w9)) (XX D AC A (fun _ _ => False)) args s mc ms A) (F0 m 92 ls [])) (x0 : Nat) (x1 : Int32) (x2 : Int32) (x3 : Int32) (x4 : Int32) (z0 : Int32) (w : Wd) (hq : wb_Mo_exchange_118 e0 mi K92 Q x0 x1 x2 x3 x4 z0 w) : ∀ (H : Heap) (locs : List Loc) (cells slots : Nat) (ls : Array Slot), HW D cls8 FTc AC A s.heap H locs w → lv_has ls 7 [(0, va_rf (some x0)), (1, .int x1), (2, .int x2), (3, .int x3), (4, .int x4)] → cells ≤ mc → slots ≤ ms → W p l e { frames := 2, cells := mc, slots := ms, locals := 46 } s m args below meth c H locs cells slots (vx_MQ below (QQ D AC A (fun v w9 => v = none ∧ Q w9)) (XX D AC A (fun _ _ => False)) args s mc ms A) (F0 m 118 ls [.int z0]) := by
  obtain ⟨hl0, hx, hb, hr, ht, hown, hlocks, hnm, hml, hex, hK, hA, hZ, hV⟩ := id C
  intro H locs cells slots ls hW hl hc hs
  unfold wb_Mo_exchange_118 at hq
  refine lv_istore (lv' := [(5, .int z0), (0, va_rf (some x0)), (1, .int x1), (2, .int x2), (3, .int x3), (4, .int x4)]) hx hb d_Mo_exchange_118 hl (by decide) (by simp [bw_cat, cat_i, cat_j]) (fun ls hl => ?_)
  refine lv_iload hx hb d_Mo_exchange_120 (lv_at hl 0 rfl) ?_
  refine lv_if_eq (tgt := 201) hx hb d_Mo_exchange_122 (by decide) (fun c1 => ?_) (fun c1 => ?_)
  · have hq := hq.1 c1
    exact k_Mo_exchange_201 C hK92 _ _ _ _ _ _ _ hq _ _ _ _ _ hW (lv_sub hl [1, 2, 3, 4, 5, 0] rfl) hc hs
  · have hq := hq.2 c1
    refine bw_aload_n hx hb d_Mo_exchange_125 rfl (lv_at hl 1 rfl) ?_
    refine lv_iload hx hb d_Mo_exchange_126 (lv_at hl 0 rfl) ?_
    obtain ⟨t2, hq⟩ := hq
    refine bw_callV (As := [.int z0]) (rest := []) C hW ci_Mo_goesBy m_920 m_922 sel_Mo_goesBy d_Mo_exchange_128 rfl t2 (by decide) rfl rfl rfl hl.1 (by decide) ⟨Nat.le_of_ble_eq_true rfl, Nat.le_of_ble_eq_true rfl⟩ ⟨hc, hs⟩ (c_Mo_goesBy hl0 _ _ _ hq) (fun _ _ _ _ _ _ h => h.elim) (fun v3 w4 H locs hv hW => ?_)
    obtain ⟨i9, rfl, hq⟩ := hv
    refine W.eq (g2 := F0 m 131 ls [.int i9]) rfl ?_
    refine lv_iconst (v := (-1)) hx hb d_Mo_exchange_131 (by decide) ?_
    refine lv_icmp_ne (tgt := 138) hx hb d_Mo_exchange_132 (by decide) (fun c10 => ?_) (fun c10 => ?_)
    · have hq := hq.1 c10
      refine lv_iconst (v := 2) hx hb d_Mo_exchange_138 (by decide) ?_
      refine lv_iload hx hb d_Mo_exchange_139 (lv_at hl 5 rfl) ?_
      refine lv_imul hx hb d_Mo_exchange_141 ?_
      refine bw_aload_n hx hb d_Mo_exchange_142 rfl (lv_at hl 1 rfl) ?_
      refine lv_iload hx hb d_Mo_exchange_143 (lv_at hl 0 rfl) ?_
      obtain ⟨t11, hq⟩ := hq
      refine bw_callV (As := [.int z0]) (rest := [.int ((2 : Int32) * x4)]) C hW ci_Mo_goesBy m_920 m_922 sel_Mo_goesBy d_Mo_exchange_145 rfl t11 (by decide) rfl rfl rfl hl.1 (by simp [bw_cat, cat_i, cat_j]) ⟨Nat.le_of_ble_eq_true rfl, Nat.le_of_ble_eq_true rfl⟩ ⟨hc, hs⟩ (c_Mo_goesBy hl0 _ _ _ hq) (fun _ _ _ _ _ _ h => h.elim) (fun v12 w13 H locs hv hW => ?_)
      obtain ⟨i18, rfl, hq⟩ := hv
      refine W.eq (g2 := F0 m 148 ls [.int i18, .int ((2 : Int32) * x4)]) rfl ?_
      refine lv_iadd hx hb d_Mo_exchange_148 ?_
      refine lv_topi (fun i19 ei19 => ?_)
      have hq := hq i19 ei19
      refine lv_istore (lv' := [(6, .int i19), (5, .int z0), (0, va_rf (some x0)), (1, .int x1), (2, .int x2), (3, .int x3), (4, .int x4)]) hx hb d_Mo_exchange_149 hl (by decide) (by simp [bw_cat, cat_i, cat_j]) (fun ls hl => ?_)
      refine bw_aload_n hx hb d_Mo_exchange_151 rfl (lv_at hl 2 rfl) ?_
      obtain ⟨t20, hq⟩ := hq
      refine bw_getR hx hb ht in_Mo hown hK hW rfl t20 (by decide) rfl 7 (by decide) rfl (ht _ m_751) (fun _ h => h) d_Mo_exchange_152 ?_
      refine lv_iload hx hb d_Mo_exchange_155 (lv_at hl 0 rfl) ?_
      obtain ⟨a21, ea21, hq⟩ := hq
      obtain ⟨t22, hq⟩ := hq
      obtain ⟨h23, hq⟩ := hq
      refine bw_iald C hW ea21 t22 h23 d_Mo_exchange_157 ?_
      refine lv_iload_n hx hb d_Mo_exchange_158 rfl (lv_at hl 3 rfl) ?_
      refine lv_icmp_ne (tgt := 201) hx hb d_Mo_exchange_159 (by decide) (fun c24 => ?_) (fun c24 => ?_)
      · have hq := hq.1 c24
        exact k_Mo_exchange_201 C hK92 _ _ _ _ _ _ _ hq _ _ _ _ _ hW (lv_sub hl [2, 3, 4, 5, 6, 1] rfl) hc hs
      · have hq := hq.2 c24
        refine lv_iload_n hx hb d_Mo_exchange_162 rfl (lv_at hl 5 rfl) ?_
        refine lv_iconst (v := (-1)) hx hb d_Mo_exchange_163 (by decide) ?_
        refine lv_icmp_eq (tgt := 198) hx hb d_Mo_exchange_164 (by decide) (fun c25 => ?_) (fun c25 => ?_)
        · have hq := hq.1 c25
          exact k_Mo_exchange_198 C hK92 _ _ _ _ _ _ _ _ hq _ _ _ _ _ hW (lv_sub hl [2, 3, 4, 5, 6, 1, 0] rfl) hc hs
        · have hq := hq.2 c25
          refine bw_aload_n hx hb d_Mo_exchange_167 rfl (lv_at hl 2 rfl) ?_
          refine bw_getR hx hb ht in_Mo hown hK hW rfl t20 (by decide) rfl 9 (by decide) rfl (ht _ m_753) (fun _ h => h) d_Mo_exchange_168 ?_
          refine lv_iload hx hb d_Mo_exchange_171 (lv_at hl 0 rfl) ?_
          obtain ⟨a26, ea26, hq⟩ := hq
          obtain ⟨t27, hq⟩ := hq
          obtain ⟨h28, hq⟩ := hq
          refine bw_iald C hW ea26 t27 h28 d_Mo_exchange_173 ?_
          refine bw_aload_n hx hb d_Mo_exchange_174 rfl (lv_at hl 2 rfl) ?_
          refine bw_getR hx hb ht in_Mo hown hK hW rfl t20 (by decide) rfl 8 (by decide) rfl (ht _ m_752) (fun _ h => h) d_Mo_exchange_175 ?_
          refine lv_iload_n hx hb d_Mo_exchange_178 rfl (lv_at hl 5 rfl) ?_
          obtain ⟨a29, ea29, hq⟩ := hq
          obtain ⟨t30, hq⟩ := hq
          obtain ⟨h31, hq⟩ := hq
          refine bw_iald C hW ea29 t30 h31 d_Mo_exchange_179 ?_
          refine lv_imul hx hb d_Mo_exchange_180 ?_
          refine bw_aload_n hx hb d_Mo_exchange_181 rfl (lv_at hl 2 rfl) ?_
          refine bw_getR hx hb ht in_Mo hown hK hW rfl t20 (by decide) rfl 9 (by decide) rfl (ht _ m_753) (fun _ h => h) d_Mo_exchange_182 ?_
          refine lv_iload_n hx hb d_Mo_exchange_185 rfl (lv_at hl 5 rfl) ?_
          obtain ⟨h32, hq⟩ := hq
          refine bw_iald C hW ea26 t27 h32 d_Mo_exchange_186 ?_
          refine bw_aload_n hx hb d_Mo_exchange_187 rfl (lv_at hl 2 rfl) ?_
          refine bw_getR hx hb ht in_Mo hown hK hW rfl t20 (by decide) rfl 8 (by decide) rfl (ht _ m_752) (fun _ h => h) d_Mo_exchange_188 ?_
          refine lv_iload hx hb d_Mo_exchange_191 (lv_at hl 0 rfl) ?_
          obtain ⟨h33, hq⟩ := hq
          refine bw_iald C hW ea29 t30 h33 d_Mo_exchange_193 ?_
          refine lv_imul hx hb d_Mo_exchange_194 ?_
          refine lv_icmp_ge (tgt := 201) hx hb d_Mo_exchange_195 (by decide) (fun c34 => ?_) (fun c34 => ?_)
          · have hq := hq.1 c34
            exact k_Mo_exchange_201 C hK92 _ _ _ _ _ _ _ hq _ _ _ _ _ hW (lv_sub hl [2, 3, 4, 5, 6, 1] rfl) hc hs
          · have hq := hq.2 c34
            exact k_Mo_exchange_198 C hK92 _ _ _ _ _ _ _ _ hq _ _ _ _ _ hW (lv_sub hl [2, 3, 4, 5, 6, 1, 0] rfl) hc hs
    · have hq := hq.2 c10
      refine lv_goto (tgt := 201) hx hb d_Mo_exchange_135 (by decide) ?_
      exact k_Mo_exchange_201 C hK92 _ _ _ _ _ _ _ hq _ _ _ _ _ hW (lv_sub hl [1, 2, 3, 4, 5, 0] rfl) hc hs
def wb_Mo_exchange_92 (e0 mi : Nat) (Q : Wd → Prop) : Nat → Nat → Int32 → Int32 → Int32 → Int32 → Wd → Prop
  | 0, _, _, _, _, _, _ => False
  | n + 1, x0, x1, x2, x3, x4, w => (x1 ≤ x4 → ((¬ x3 = (-1 : Int32) → (bw_is w x0 6 ∧ (¬ (2 : Int32) = 0 ∧ (∃ a4 : Nat, (wR w x0 11) = some a4 ∧ (bw_is w a4 101 ∧ (vp_in ((60 : Int32) * (x3 / (2 : Int32))) (wN w a4) ∧ (∀ i7 : Int32, i7 = wI w a4 ((60 : Int32) * (x3 / (2 : Int32))).toNatClampNeg → (wp_Mo_leave e0 mi x0 i7 w (fun w9 => bw_is w9 x0 6 ∧ (∃ a16 : Nat, (wR w9 x0 9) = some a16 ∧ (bw_is w9 a16 101 ∧ (vp_in x3 (wN w9 a16) ∧ (vp_in x3 (wN w9 a16) ∧ (wp_Mo_come e0 mi x0 i7 x1 (sI w9 a16 x3.toNatClampNeg ((wI w9 a16 x3.toNatClampNeg) + (1 : Int32))) (fun w21 => bw_is w21 x0 6 ∧ (wp_Mo_tell e0 mi x0 (2 : Int32) i7 x1 w21 (fun w29 => Q w29))))))))))))))))) ∧ (x3 = (-1 : Int32) → (Q w)))) ∧ (¬ x1 ≤ x4 → (bw_is w x0 6 ∧ (∃ a37 : Nat, (wR w x0 6) = some a37 ∧ (bw_is w a37 103 ∧ (vp_in x4 (wN w a37) ∧ (((wI w a37 x4.toNatClampNeg) = 0 → (wb_Mo_exchange_118 e0 mi (wb_Mo_exchange_92 e0 mi Q n) Q x0 x1 x2 x3 x4 (0 : Int32) w)) ∧ (¬ (wI w a37 x4.toNatClampNeg) = 0 → (wp_Mo_atEnd e0 mi x0 x4 w (fun i47 w42 => wb_Mo_exchange_118 e0 mi (wb_Mo_exchange_92 e0 mi Q n) Q x0 x1 x2 x3 x4 i47 w42)))))))))
set_option maxHeartbeats 4000000 in
set_option maxRecDepth 100000 in
theorem k_Mo_exchange_92 {p : Program} {l : Launch} {e : Env} {s : State} {m : MethodId} {args : Array Value} {below : List Frame} {meth : Method} {c : Code} {D : va_G} {AC : Nat → ClassId} {e0 mi : Nat} {A : Nat → Prop} {mc ms : Nat} {Q : Wd → Prop} (C : Cx p l s m args meth c D AC e0 mi A n_Mo_exchange b_Mo_exchange 7 none) : ∀ (n : Nat) (x0 : Nat) (x1 : Int32) (x2 : Int32) (x3 : Int32) (x4 : Int32) (w : Wd), wb_Mo_exchange_92 e0 mi Q n x0 x1 x2 x3 x4 w → ∀ (H : Heap) (locs : List Loc) (cells slots : Nat) (ls : Array Slot), HW D cls8 FTc AC A s.heap H locs w → lv_has ls 7 [(0, va_rf (some x0)), (1, .int x1), (2, .int x2), (3, .int x3), (4, .int x4)] → cells ≤ mc → slots ≤ ms → W p l e { frames := 2, cells := mc, slots := ms, locals := 46 } s m args below meth c H locs cells slots (vx_MQ below (QQ D AC A (fun v w9 => v = none ∧ Q w9)) (XX D AC A (fun _ _ => False)) args s mc ms A) (F0 m 92 ls []) := by
  obtain ⟨hl0, hx, hb, hr, ht, hown, hlocks, hnm, hml, hex, hK, hA, hZ, hV⟩ := id C
  intro n
  induction n with
  | zero =>
    intro x0 x1 x2 x3 x4 w hq
    exact hq.elim
  | succ n ih =>
    intro x0 x1 x2 x3 x4 w hq H locs cells slots ls hW hl hc hs
    have hK92 := ih
    unfold wb_Mo_exchange_92 at hq
    refine lv_iload hx hb d_Mo_exchange_92 (lv_at hl 4 rfl) ?_
    refine lv_iload_n hx hb d_Mo_exchange_94 rfl (lv_at hl 1 rfl) ?_
    refine lv_icmp_ge (tgt := 207) hx hb d_Mo_exchange_95 (by decide) (fun c1 => ?_) (fun c1 => ?_)
    · have hq := hq.1 c1
      refine lv_iload_n hx hb d_Mo_exchange_207 rfl (lv_at hl 3 rfl) ?_
      refine lv_iconst (v := (-1)) hx hb d_Mo_exchange_208 (by decide) ?_
      refine lv_icmp_ne (tgt := 213) hx hb d_Mo_exchange_209 (by decide) (fun c2 => ?_) (fun c2 => ?_)
      · have hq := hq.1 c2
        refine bw_aload_n hx hb d_Mo_exchange_213 rfl (lv_at hl 0 rfl) ?_
        obtain ⟨t3, hq⟩ := hq
        refine bw_getR hx hb ht in_Mo hown hK hW rfl t3 (by decide) rfl 11 (by decide) rfl (ht _ m_755) (fun _ h => h) d_Mo_exchange_214 ?_
        refine lv_bipush (v := 60) hx hb d_Mo_exchange_217 (by decide) ?_
        refine lv_iload_n hx hb d_Mo_exchange_219 rfl (lv_at hl 3 rfl) ?_
        refine lv_iconst (v := 2) hx hb d_Mo_exchange_220 (by decide) ?_
        obtain ⟨h35, hq⟩ := hq
        refine lv_idiv hx hb d_Mo_exchange_221 h35 ?_
        refine lv_imul hx hb d_Mo_exchange_222 ?_
        obtain ⟨a4, ea4, hq⟩ := hq
        obtain ⟨t5, hq⟩ := hq
        obtain ⟨h6, hq⟩ := hq
        refine bw_iald C hW ea4 t5 h6 d_Mo_exchange_223 ?_
        refine lv_topi (fun i7 ei7 => ?_)
        have hq := hq i7 ei7
        refine lv_istore (lv' := [(4, .int i7), (0, va_rf (some x0)), (1, .int x1), (2, .int x2), (3, .int x3)]) hx hb d_Mo_exchange_224 hl (by decide) (by simp [bw_cat, cat_i, cat_j]) (fun ls hl => ?_)
        refine bw_aload_n hx hb d_Mo_exchange_226 rfl (lv_at hl 1 rfl) ?_
        refine lv_iload hx hb d_Mo_exchange_227 (lv_at hl 0 rfl) ?_
        refine bw_callV (As := [.int i7]) (rest := []) C hW ci_Mo_leave m_924 m_926 sel_Mo_leave d_Mo_exchange_229 rfl t3 (by decide) rfl rfl rfl hl.1 (by decide) ⟨Nat.le_of_ble_eq_true rfl, Nat.le_of_ble_eq_true rfl⟩ ⟨hc, hs⟩ (c_Mo_leave hl0 _ _ _ hq) (fun _ _ _ _ _ _ h => h.elim) (fun v8 w9 H locs hv hW => ?_)
        obtain ⟨rfl, hq⟩ := hv
        refine W.eq (g2 := F0 m 232 ls []) rfl ?_
        refine bw_aload_n hx hb d_Mo_exchange_232 rfl (lv_at hl 1 rfl) ?_
        obtain ⟨t15, hq⟩ := hq
        refine bw_getR hx hb ht in_Mo hown hK hW rfl t15 (by decide) rfl 9 (by decide) rfl (ht _ m_753) (fun _ h => h) d_Mo_exchange_233 ?_
        refine lv_iload_n hx hb d_Mo_exchange_236 rfl (lv_at hl 4 rfl) ?_
        refine lv_dup2_11 hx hb d_Mo_exchange_237 rfl (bw_cat _) ?_
        obtain ⟨a16, ea16, hq⟩ := hq
        obtain ⟨t17, hq⟩ := hq
        obtain ⟨h18, hq⟩ := hq
        refine bw_iald C hW ea16 t17 h18 d_Mo_exchange_238 ?_
        refine lv_iconst (v := 1) hx hb d_Mo_exchange_239 (by decide) ?_
        refine lv_iadd hx hb d_Mo_exchange_240 ?_
        obtain ⟨h19, hq⟩ := hq
        refine bw_iast C hW ea16 t17 h19 d_Mo_exchange_241 (fun H locs hW => ?_)
        refine bw_aload_n hx hb d_Mo_exchange_242 rfl (lv_at hl 1 rfl) ?_
        refine lv_iload hx hb d_Mo_exchange_243 (lv_at hl 0 rfl) ?_
        refine lv_iload_n hx hb d_Mo_exchange_245 rfl (lv_at hl 2 rfl) ?_
        refine bw_callV (As := [.int i7, .int x1]) (rest := []) C hW ci_Mo_come m_887 m_889 sel_Mo_come d_Mo_exchange_246 rfl t15 (by decide) rfl rfl rfl hl.1 (by decide) ⟨Nat.le_of_ble_eq_true rfl, Nat.le_of_ble_eq_true rfl⟩ ⟨hc, hs⟩ (c_Mo_come hl0 _ _ _ _ hq) (fun _ _ _ _ _ _ h => h.elim) (fun v20 w21 H locs hv hW => ?_)
        obtain ⟨rfl, hq⟩ := hv
        refine W.eq (g2 := F0 m 249 ls []) rfl ?_
        refine bw_aload_n hx hb d_Mo_exchange_249 rfl (lv_at hl 1 rfl) ?_
        refine lv_iconst (v := 2) hx hb d_Mo_exchange_250 (by decide) ?_
        refine lv_iload hx hb d_Mo_exchange_251 (lv_at hl 0 rfl) ?_
        refine lv_iload_n hx hb d_Mo_exchange_253 rfl (lv_at hl 2 rfl) ?_
        obtain ⟨t27, hq⟩ := hq
        refine bw_callV (As := [.int (2 : Int32), .int i7, .int x1]) (rest := []) C hW ci_Mo_tell m_908 m_910 sel_Mo_tell d_Mo_exchange_254 rfl t27 (by decide) rfl rfl rfl hl.1 (by decide) ⟨Nat.le_of_ble_eq_true rfl, Nat.le_of_ble_eq_true rfl⟩ ⟨hc, hs⟩ (c_Mo_tell hl0 _ _ _ _ _ hq) (fun _ _ _ _ _ _ h => h.elim) (fun v28 w29 H locs hv hW => ?_)
        obtain ⟨rfl, hq⟩ := hv
        refine W.eq (g2 := F0 m 257 ls []) rfl ?_
        exact bw_vret C hW ⟨rfl, hq⟩ d_Mo_exchange_257 hc hs
      · have hq := hq.2 c2
        exact bw_vret C hW ⟨rfl, hq⟩ d_Mo_exchange_212 hc hs
    · have hq := hq.2 c1
      refine bw_aload_n hx hb d_Mo_exchange_98 rfl (lv_at hl 0 rfl) ?_
      obtain ⟨t36, hq⟩ := hq
      refine bw_getR hx hb ht in_Mo hown hK hW rfl t36 (by decide) rfl 6 (by decide) rfl (ht _ m_750) (fun _ h => h) d_Mo_exchange_99 ?_
      refine lv_iload hx hb d_Mo_exchange_102 (lv_at hl 4 rfl) ?_
      obtain ⟨a37, ea37, hq⟩ := hq
      obtain ⟨t38, hq⟩ := hq
      obtain ⟨h39, hq⟩ := hq
      refine bw_zald C hW ea37 t38 h39 d_Mo_exchange_104 ?_
      refine lv_if_eq (tgt := 117) hx hb d_Mo_exchange_105 (by decide) (fun c40 => ?_) (fun c40 => ?_)
      · have hq := hq.1 c40
        refine lv_iconst (v := 0) hx hb d_Mo_exchange_117 (by decide) ?_
        exact k_Mo_exchange_118 C hK92 _ _ _ _ _ _ _ hq _ _ _ _ _ hW (lv_sub hl [0, 1, 2, 3, 4] rfl) hc hs
      · have hq := hq.2 c40
        refine bw_aload_n hx hb d_Mo_exchange_108 rfl (lv_at hl 0 rfl) ?_
        refine lv_iload hx hb d_Mo_exchange_109 (lv_at hl 4 rfl) ?_
        refine bw_callV (As := [.int x4]) (rest := []) C hW ci_Mo_atEnd m_916 m_918 sel_Mo_atEnd d_Mo_exchange_111 rfl t36 (by decide) rfl rfl rfl hl.1 (by decide) ⟨Nat.le_of_ble_eq_true rfl, Nat.le_of_ble_eq_true rfl⟩ ⟨hc, hs⟩ (c_Mo_atEnd hl0 _ _ _ hq) (fun _ _ _ _ _ _ h => h.elim) (fun v41 w42 H locs hv hW => ?_)
        obtain ⟨i47, rfl, hq⟩ := hv
        refine W.eq (g2 := F0 m 114 ls [.int i47]) rfl ?_
        refine lv_goto (tgt := 118) hx hb d_Mo_exchange_114 (by decide) ?_
        exact k_Mo_exchange_118 C hK92 _ _ _ _ _ _ _ hq _ _ _ _ _ hW (lv_sub hl [0, 1, 2, 3, 4] rfl) hc hs
def wb_Mo_exchange_78 (e0 mi : Nat) (Q : Wd → Prop) (x0 : Nat) (x1 : Int32) (x2 : Int32) (w : Wd) : Prop :=
  bw_is w x0 6 ∧ (wp_Mo_missing e0 mi x0 x1 w (fun i8 w3 => (i8 ≤ 0 → (∃ n10 : Nat, wb_Mo_exchange_92 e0 mi Q n10 x0 x1 x2 (-1 : Int32) (0 : Int32) w3)) ∧ (¬ i8 ≤ 0 → (Q w3))))
set_option maxHeartbeats 4000000 in
set_option maxRecDepth 100000 in
theorem k_Mo_exchange_78 {p : Program} {l : Launch} {e : Env} {s : State} {m : MethodId} {args : Array Value} {below : List Frame} {meth : Method} {c : Code} {D : va_G} {AC : Nat → ClassId} {e0 mi : Nat} {A : Nat → Prop} {mc ms : Nat} {Q : Wd → Prop} (C : Cx p l s m args meth c D AC e0 mi A n_Mo_exchange b_Mo_exchange 7 none) (x0 : Nat) (x1 : Int32) (x2 : Int32) (w : Wd) (hq : wb_Mo_exchange_78 e0 mi Q x0 x1 x2 w) : ∀ (H : Heap) (locs : List Loc) (cells slots : Nat) (ls : Array Slot), HW D cls8 FTc AC A s.heap H locs w → lv_has ls 7 [(0, va_rf (some x0)), (1, .int x1), (2, .int x2)] → cells ≤ mc → slots ≤ ms → W p l e { frames := 2, cells := mc, slots := ms, locals := 46 } s m args below meth c H locs cells slots (vx_MQ below (QQ D AC A (fun v w9 => v = none ∧ Q w9)) (XX D AC A (fun _ _ => False)) args s mc ms A) (F0 m 78 ls []) := by
  obtain ⟨hl0, hx, hb, hr, ht, hown, hlocks, hnm, hml, hex, hK, hA, hZ, hV⟩ := id C
  intro H locs cells slots ls hW hl hc hs
  unfold wb_Mo_exchange_78 at hq
  refine bw_aload_n hx hb d_Mo_exchange_78 rfl (lv_at hl 0 rfl) ?_
  refine lv_iload_n hx hb d_Mo_exchange_79 rfl (lv_at hl 1 rfl) ?_
  obtain ⟨t1, hq⟩ := hq
  refine bw_callV (As := [.int x1]) (rest := []) C hW ci_Mo_missing m_875 m_877 sel_Mo_missing d_Mo_exchange_80 rfl t1 (by decide) rfl rfl rfl hl.1 (by decide) ⟨Nat.le_of_ble_eq_true rfl, Nat.le_of_ble_eq_true rfl⟩ ⟨hc, hs⟩ (c_Mo_missing hl0 _ _ _ hq) (fun _ _ _ _ _ _ h => h.elim) (fun v2 w3 H locs hv hW => ?_)
  obtain ⟨i8, rfl, hq⟩ := hv
  refine W.eq (g2 := F0 m 83 ls [.int i8]) rfl ?_
  refine lv_if_le (tgt := 87) hx hb d_Mo_exchange_83 (by decide) (fun c9 => ?_) (fun c9 => ?_)
  · have hq := hq.1 c9
    refine lv_iconst (v := (-1)) hx hb d_Mo_exchange_87 (by decide) ?_
    refine lv_istore_n (i := 3) (lv' := [(3, .int (-1 : Int32)), (0, va_rf (some x0)), (1, .int x1), (2, .int x2)]) hx hb d_Mo_exchange_88 rfl hl (by decide) (by simp [bw_cat, cat_i, cat_j]) (fun ls hl => ?_)
    refine lv_iconst (v := 0) hx hb d_Mo_exchange_89 (by decide) ?_
    refine lv_istore (lv' := [(4, .int (0 : Int32)), (3, .int (-1 : Int32)), (0, va_rf (some x0)), (1, .int x1), (2, .int x2)]) hx hb d_Mo_exchange_90 hl (by decide) (by simp [bw_cat, cat_i, cat_j]) (fun ls hl => ?_)
    obtain ⟨n10, hq⟩ := hq
    exact k_Mo_exchange_92 C  n10 _ _ _ _ _ _ hq _ _ _ _ _ hW (lv_sub hl [2, 3, 4, 1, 0] rfl) hc hs
  · have hq := hq.2 c9
    exact bw_vret C hW ⟨rfl, hq⟩ d_Mo_exchange_86 hc hs
def wp_Mo_exchange (e0 mi : Nat) (x0 : Nat) (x1 : Int32) (w : Wd) (Q : Wd → Prop) : Prop :=
  bw_is w x0 6 ∧ (wp_Mo_atEnd e0 mi x0 x1 w (fun i8 w3 => (i8 ≤ 0 → (wb_Mo_exchange_78 e0 mi Q x0 x1 i8 w3)) ∧ (¬ i8 ≤ 0 → (bw_is w3 x0 6 ∧ (wp_Mo_goesBy e0 mi x0 i8 w3 (fun i17 w12 => (¬ i17 = (-1 : Int32) → (wb_Mo_exchange_78 e0 mi Q x0 x1 i8 w12)) ∧ (i17 = (-1 : Int32) → (bw_is w12 x0 6 ∧ (wp_Mo_leave e0 mi x0 i8 w12 (fun w21 => bw_is w21 x0 6 ∧ (∃ a28 : Nat, (wR w21 x0 13) = some a28 ∧ (bw_is w21 a28 101 ∧ (vp_in i8 (wN w21 a28) ∧ (∃ a31 : Nat, (wR (sI w21 a28 i8.toNatClampNeg (1 : Int32)) x0 31) = some a31 ∧ (bw_is (sI w21 a28 i8.toNatClampNeg (1 : Int32)) a31 101 ∧ (vp_in (wI (sI w21 a28 i8.toNatClampNeg (1 : Int32)) x0 29) (wN (sI w21 a28 i8.toNatClampNeg (1 : Int32)) a31) ∧ (∃ a34 : Nat, (wR (sI (sI (sI w21 a28 i8.toNatClampNeg (1 : Int32)) a31 (wI (sI w21 a28 i8.toNatClampNeg (1 : Int32)) x0 29).toNatClampNeg i8) x0 29 ((wI (sI (sI w21 a28 i8.toNatClampNeg (1 : Int32)) a31 (wI (sI w21 a28 i8.toNatClampNeg (1 : Int32)) x0 29).toNatClampNeg i8) x0 29) + (1 : Int32))) x0 20) = some a34 ∧ (bw_is (sI (sI (sI w21 a28 i8.toNatClampNeg (1 : Int32)) a31 (wI (sI w21 a28 i8.toNatClampNeg (1 : Int32)) x0 29).toNatClampNeg i8) x0 29 ((wI (sI (sI w21 a28 i8.toNatClampNeg (1 : Int32)) a31 (wI (sI w21 a28 i8.toNatClampNeg (1 : Int32)) x0 29).toNatClampNeg i8) x0 29) + (1 : Int32))) a34 101 ∧ (vp_in i8 (wN (sI (sI (sI w21 a28 i8.toNatClampNeg (1 : Int32)) a31 (wI (sI w21 a28 i8.toNatClampNeg (1 : Int32)) x0 29).toNatClampNeg i8) x0 29 ((wI (sI (sI w21 a28 i8.toNatClampNeg (1 : Int32)) a31 (wI (sI w21 a28 i8.toNatClampNeg (1 : Int32)) x0 29).toNatClampNeg i8) x0 29) + (1 : Int32))) a34) ∧ (wp_Mo_tell e0 mi x0 (1 : Int32) i8 x1 (sI (sI (sI (sI w21 a28 i8.toNatClampNeg (1 : Int32)) a31 (wI (sI w21 a28 i8.toNatClampNeg (1 : Int32)) x0 29).toNatClampNeg i8) x0 29 ((wI (sI (sI w21 a28 i8.toNatClampNeg (1 : Int32)) a31 (wI (sI w21 a28 i8.toNatClampNeg (1 : Int32)) x0 29).toNatClampNeg i8) x0 29) + (1 : Int32))) x0 30 ((wI (sI (sI (sI w21 a28 i8.toNatClampNeg (1 : Int32)) a31 (wI (sI w21 a28 i8.toNatClampNeg (1 : Int32)) x0 29).toNatClampNeg i8) x0 29 ((wI (sI (sI w21 a28 i8.toNatClampNeg (1 : Int32)) a31 (wI (sI w21 a28 i8.toNatClampNeg (1 : Int32)) x0 29).toNatClampNeg i8) x0 29) + (1 : Int32))) x0 30) + ((wI (sI (sI (sI w21 a28 i8.toNatClampNeg (1 : Int32)) a31 (wI (sI w21 a28 i8.toNatClampNeg (1 : Int32)) x0 29).toNatClampNeg i8) x0 29 ((wI (sI (sI w21 a28 i8.toNatClampNeg (1 : Int32)) a31 (wI (sI w21 a28 i8.toNatClampNeg (1 : Int32)) x0 29).toNatClampNeg i8) x0 29) + (1 : Int32))) x0 1) - (wI (sI (sI (sI w21 a28 i8.toNatClampNeg (1 : Int32)) a31 (wI (sI w21 a28 i8.toNatClampNeg (1 : Int32)) x0 29).toNatClampNeg i8) x0 29 ((wI (sI (sI w21 a28 i8.toNatClampNeg (1 : Int32)) a31 (wI (sI w21 a28 i8.toNatClampNeg (1 : Int32)) x0 29).toNatClampNeg i8) x0 29) + (1 : Int32))) a34 i8.toNatClampNeg)))) (fun w38 => wb_Mo_exchange_78 e0 mi Q x0 x1 i8 w38)))))))))))))))))))))
set_option maxHeartbeats 4000000 in
set_option maxRecDepth 100000 in
theorem k_Mo_exchange_0 {p : Program} {l : Launch} {e : Env} {s : State} {m : MethodId} {args : Array Value} {below : List Frame} {meth : Method} {c : Code} {D : va_G} {AC : Nat → ClassId} {e0 mi : Nat} {A : Nat → Prop} {mc ms : Nat} {Q : Wd → Prop} (C : Cx p l s m args meth c D AC e0 mi A n_Mo_exchange b_Mo_exchange 7 none) (x0 : Nat) (x1 : Int32) (w : Wd) (hq : wp_Mo_exchange e0 mi x0 x1 w Q) : ∀ (H : Heap) (locs : List Loc) (cells slots : Nat) (ls : Array Slot), HW D cls8 FTc AC A s.heap H locs w → lv_has ls 7 [(0, va_rf (some x0)), (1, .int x1)] → cells ≤ mc → slots ≤ ms → W p l e { frames := 2, cells := mc, slots := ms, locals := 46 } s m args below meth c H locs cells slots (vx_MQ below (QQ D AC A (fun v w9 => v = none ∧ Q w9)) (XX D AC A (fun _ _ => False)) args s mc ms A) (F0 m 0 ls []) := by
  obtain ⟨hl0, hx, hb, hr, ht, hown, hlocks, hnm, hml, hex, hK, hA, hZ, hV⟩ := id C
  intro H locs cells slots ls hW hl hc hs
  unfold wp_Mo_exchange at hq
  refine bw_aload_n hx hb d_Mo_exchange_0 rfl (lv_at hl 0 rfl) ?_
  refine lv_iload_n hx hb d_Mo_exchange_1 rfl (lv_at hl 1 rfl) ?_
  obtain ⟨t1, hq⟩ := hq
  refine bw_callV (As := [.int x1]) (rest := []) C hW ci_Mo_atEnd m_916 m_918 sel_Mo_atEnd d_Mo_exchange_2 rfl t1 (by decide) rfl rfl rfl hl.1 (by decide) ⟨Nat.le_of_ble_eq_true rfl, Nat.le_of_ble_eq_true rfl⟩ ⟨hc, hs⟩ (c_Mo_atEnd hl0 _ _ _ hq) (fun _ _ _ _ _ _ h => h.elim) (fun v2 w3 H locs hv hW => ?_)
  obtain ⟨i8, rfl, hq⟩ := hv
  refine W.eq (g2 := F0 m 5 ls [.int i8]) rfl ?_
  refine lv_istore_n (i := 2) (lv' := [(2, .int i8), (0, va_rf (some x0)), (1, .int x1)]) hx hb d_Mo_exchange_5 rfl hl (by decide) (by simp [bw_cat, cat_i, cat_j]) (fun ls hl => ?_)
  refine lv_iload_n hx hb d_Mo_exchange_6 rfl (lv_at hl 0 rfl) ?_
  refine lv_if_le (tgt := 78) hx hb d_Mo_exchange_7 (by decide) (fun c9 => ?_) (fun c9 => ?_)
  · have hq := hq.1 c9
    exact k_Mo_exchange_78 C  _ _ _ _ hq _ _ _ _ _ hW (lv_sub hl [1, 2, 0] rfl) hc hs
  · have hq := hq.2 c9
    refine bw_aload_n hx hb d_Mo_exchange_10 rfl (lv_at hl 1 rfl) ?_
    refine lv_iload_n hx hb d_Mo_exchange_11 rfl (lv_at hl 0 rfl) ?_
    obtain ⟨t10, hq⟩ := hq
    refine bw_callV (As := [.int i8]) (rest := []) C hW ci_Mo_goesBy m_920 m_922 sel_Mo_goesBy d_Mo_exchange_12 rfl t10 (by decide) rfl rfl rfl hl.1 (by decide) ⟨Nat.le_of_ble_eq_true rfl, Nat.le_of_ble_eq_true rfl⟩ ⟨hc, hs⟩ (c_Mo_goesBy hl0 _ _ _ hq) (fun _ _ _ _ _ _ h => h.elim) (fun v11 w12 H locs hv hW => ?_)
    obtain ⟨i17, rfl, hq⟩ := hv
    refine W.eq (g2 := F0 m 15 ls [.int i17]) rfl ?_
    refine lv_iconst (v := (-1)) hx hb d_Mo_exchange_15 (by decide) ?_
    refine lv_icmp_ne (tgt := 78) hx hb d_Mo_exchange_16 (by decide) (fun c18 => ?_) (fun c18 => ?_)
    · have hq := hq.1 c18
      exact k_Mo_exchange_78 C  _ _ _ _ hq _ _ _ _ _ hW (lv_sub hl [1, 2, 0] rfl) hc hs
    · have hq := hq.2 c18
      refine bw_aload_n hx hb d_Mo_exchange_19 rfl (lv_at hl 1 rfl) ?_
      refine lv_iload_n hx hb d_Mo_exchange_20 rfl (lv_at hl 0 rfl) ?_
      obtain ⟨t19, hq⟩ := hq
      refine bw_callV (As := [.int i8]) (rest := []) C hW ci_Mo_leave m_924 m_926 sel_Mo_leave d_Mo_exchange_21 rfl t19 (by decide) rfl rfl rfl hl.1 (by decide) ⟨Nat.le_of_ble_eq_true rfl, Nat.le_of_ble_eq_true rfl⟩ ⟨hc, hs⟩ (c_Mo_leave hl0 _ _ _ hq) (fun _ _ _ _ _ _ h => h.elim) (fun v20 w21 H locs hv hW => ?_)
      obtain ⟨rfl, hq⟩ := hv
      refine W.eq (g2 := F0 m 24 ls []) rfl ?_
      refine bw_aload_n hx hb d_Mo_exchange_24 rfl (lv_at hl 1 rfl) ?_
      obtain ⟨t27, hq⟩ := hq
      refine bw_getR hx hb ht in_Mo hown hK hW rfl t27 (by decide) rfl 13 (by decide) rfl (ht _ m_757) (fun _ h => h) d_Mo_exchange_25 ?_
      refine lv_iload_n hx hb d_Mo_exchange_28 rfl (lv_at hl 0 rfl) ?_
      refine lv_iconst (v := 1) hx hb d_Mo_exchange_29 (by decide) ?_
      obtain ⟨a28, ea28, hq⟩ := hq
      obtain ⟨t29, hq⟩ := hq
      obtain ⟨h30, hq⟩ := hq
      refine bw_iast C hW ea28 t29 h30 d_Mo_exchange_30 (fun H locs hW => ?_)
      refine bw_aload_n hx hb d_Mo_exchange_31 rfl (lv_at hl 1 rfl) ?_
      refine bw_getR hx hb ht in_Mo hown hK hW rfl t27 (by decide) rfl 31 (by decide) rfl (ht _ m_775) (fun _ h => h) d_Mo_exchange_32 ?_
      refine bw_aload_n hx hb d_Mo_exchange_35 rfl (lv_at hl 1 rfl) ?_
      refine bw_getI hx hb ht in_Mo hown hK hW rfl t27 (by decide) rfl 29 (by decide) rfl (ht _ m_773) (fun _ h => h) d_Mo_exchange_36 ?_
      refine lv_iload_n hx hb d_Mo_exchange_39 rfl (lv_at hl 0 rfl) ?_
      obtain ⟨a31, ea31, hq⟩ := hq
      obtain ⟨t32, hq⟩ := hq
      obtain ⟨h33, hq⟩ := hq
      refine bw_iast C hW ea31 t32 h33 d_Mo_exchange_40 (fun H locs hW => ?_)
      refine bw_aload_n hx hb d_Mo_exchange_41 rfl (lv_at hl 1 rfl) ?_
      refine lv_dup hx hb d_Mo_exchange_42 (bw_cat _) ?_
      refine bw_getI hx hb ht in_Mo hown hK hW rfl t27 (by decide) rfl 29 (by decide) rfl (ht _ m_773) (fun _ h => h) d_Mo_exchange_43 ?_
      refine lv_iconst (v := 1) hx hb d_Mo_exchange_46 (by decide) ?_
      refine lv_iadd hx hb d_Mo_exchange_47 ?_
      refine bw_putI hx hb ht in_Mo y_Mo yk_Mo nm_Mo hown hK hW rfl t27 (by decide) rfl 29 (by decide) rfl (ht _ m_773) (fun _ h => h) (Or.inl rfl) rfl rfl d_Mo_exchange_48 (fun H locs hW => ?_)
      refine bw_aload_n hx hb d_Mo_exchange_51 rfl (lv_at hl 1 rfl) ?_
      refine lv_dup hx hb d_Mo_exchange_52 (bw_cat _) ?_
      refine bw_getI hx hb ht in_Mo hown hK hW rfl t27 (by decide) rfl 30 (by decide) rfl (ht _ m_774) (fun _ h => h) d_Mo_exchange_53 ?_
      refine bw_aload_n hx hb d_Mo_exchange_56 rfl (lv_at hl 1 rfl) ?_
      refine bw_getI hx hb ht in_Mo hown hK hW rfl t27 (by decide) rfl 1 (by decide) rfl (ht _ m_745) (fun _ h => h) d_Mo_exchange_57 ?_
      refine bw_aload_n hx hb d_Mo_exchange_60 rfl (lv_at hl 1 rfl) ?_
      refine bw_getR hx hb ht in_Mo hown hK hW rfl t27 (by decide) rfl 20 (by decide) rfl (ht _ m_764) (fun _ h => h) d_Mo_exchange_61 ?_
      refine lv_iload_n hx hb d_Mo_exchange_64 rfl (lv_at hl 0 rfl) ?_
      obtain ⟨a34, ea34, hq⟩ := hq
      obtain ⟨t35, hq⟩ := hq
      obtain ⟨h36, hq⟩ := hq
      refine bw_iald C hW ea34 t35 h36 d_Mo_exchange_65 ?_
      refine lv_isub hx hb d_Mo_exchange_66 ?_
      refine lv_iadd hx hb d_Mo_exchange_67 ?_
      refine bw_putI hx hb ht in_Mo y_Mo yk_Mo nm_Mo hown hK hW rfl t27 (by decide) rfl 30 (by decide) rfl (ht _ m_774) (fun _ h => h) (Or.inl rfl) rfl rfl d_Mo_exchange_68 (fun H locs hW => ?_)
      refine bw_aload_n hx hb d_Mo_exchange_71 rfl (lv_at hl 1 rfl) ?_
      refine lv_iconst (v := 1) hx hb d_Mo_exchange_72 (by decide) ?_
      refine lv_iload_n hx hb d_Mo_exchange_73 rfl (lv_at hl 0 rfl) ?_
      refine lv_iload_n hx hb d_Mo_exchange_74 rfl (lv_at hl 2 rfl) ?_
      refine bw_callV (As := [.int (1 : Int32), .int i8, .int x1]) (rest := []) C hW ci_Mo_tell m_908 m_910 sel_Mo_tell d_Mo_exchange_75 rfl t27 (by decide) rfl rfl rfl hl.1 (by decide) ⟨Nat.le_of_ble_eq_true rfl, Nat.le_of_ble_eq_true rfl⟩ ⟨hc, hs⟩ (c_Mo_tell hl0 _ _ _ _ _ hq) (fun _ _ _ _ _ _ h => h.elim) (fun v37 w38 H locs hv hW => ?_)
      obtain ⟨rfl, hq⟩ := hv
      refine W.eq (g2 := F0 m 78 ls []) rfl ?_
      exact k_Mo_exchange_78 C  _ _ _ _ hq _ _ _ _ _ hW (lv_sub hl [1, 2, 0] rfl) hc hs
theorem ci_Mo_exchange : CI n_Mo_exchange b_Mo_exchange 7 none 1 := ⟨m_915, m_5, by decide, by decide, by decide +kernel⟩
theorem sel_Mo_exchange : Cond.selects "BeltRowsModel" n_Mo_exchange n_Mo_exchange ∈ TBL := List.mem_filter.mpr ⟨List.mem_append_left _ (List.mem_map.mpr ⟨(n_Mo_exchange, 32), by decide +kernel, rfl⟩), rfl⟩
theorem c_Mo_exchange {l : Launch} {D : va_G} {AC : Nat → ClassId} {e0 mi : Nat} {Q : Wd → Prop} (hl0 : l.stackTraces = false) (x0 : Nat) (x1 : Int32) (w : Wd) (hq : wp_Mo_exchange e0 mi x0 x1 w Q) : Ct l D AC e0 mi n_Mo_exchange (wy n_Mo_exchange b_Mo_exchange 7 none) 2 46 [va_rf (some x0), .int x1] w 0 0 (fun v w9 => v = none ∧ Q w9) (fun _ _ => False) :=
  Ct.of hl0 (by decide) (by simp [lg_sl, bw_cat, cat_i, cat_j]) (fun p e s m args below meth c A ls C hW hl => k_Mo_exchange_0 C x0 x1 w hq s.heap [] 0 0 ls hW (by simpa [lv_args, bw_cat, cat_i, cat_j] using hl) (Nat.le_refl _) (Nat.le_refl _))
def wb_Mo_move_290 (e0 mi : Nat) (K2 : Nat → Int32 → Int32 → Wd → Prop) (K194 : Nat → Int32 → Int32 → Int32 → Int32 → Int32 → Int32 → Wd → Prop) (Q : Wd → Prop) (x0 : Nat) (x1 : Int32) (x2 : Int32) (x3 : Int32) (x4 : Int32) (x5 : Int32) (x6 : Int32) (w : Wd) : Prop :=
  ∀ i1 : Int32, i1 = x6 + 1 → (K194 x0 x1 x2 x3 x4 x5 i1 w)
set_option maxHeartbeats 4000000 in
set_option maxRecDepth 100000 in
theorem k_Mo_move_290 {p : Program} {l : Launch} {e : Env} {s : State} {m : MethodId} {args : Array Value} {below : List Frame} {meth : Method} {c : Code} {D : va_G} {AC : Nat → ClassId} {e0 mi : Nat} {A : Nat → Prop} {mc ms : Nat} {K2 : Nat → Int32 → Int32 → Wd → Prop} {K194 : Nat → Int32 → Int32 → Int32 → Int32 → Int32 → Int32 → Wd → Prop} {Q : Wd → Prop} (C : Cx p l s m args meth c D AC e0 mi A n_Mo_move b_Mo_move 7 none) (hK2 : ∀ (x0 : Nat) (x1 : Int32) (x2 : Int32) (w : Wd), K2 x0 x1 x2 w → ∀ (H : Heap) (locs : List Loc) (cells slots : Nat) (ls : Array Slot), HW D cls8 FTc AC A s.heap H locs w → lv_has ls 7 [(0, va_rf (some x0)), (1, .int x1), (2, .int x2)] → cells ≤ mc → slots ≤ ms → W p l e { frames := 1, cells := mc, slots := ms, locals := 21 } s m args below meth c H locs cells slots (vx_MQ below (QQ D AC A (fun v w9 => v = none ∧ Q w9)) (XX D AC A (fun _ _ => False)) args s mc ms A) (F0 m 2 ls [])) (hK194 : ∀ (x0 : Nat) (x1 : Int32) (x2 : Int32) (x3 : Int32) (x4 : Int32) (x5 : Int32) (x6 : Int32) (w : Wd), K194 x0 x1 x2 x3 x4 x5 x6 w → ∀ (H : Heap) (locs : List Loc) (cells slots : Nat) (ls : Array Slot), HW D cls8 FTc AC A s.heap H locs w → lv_has ls 7 [(0, va_rf (some x0)), (1, .int x1), (2, .int x2), (3, .int x3), (4, .int x4), (5, .int x5), (6, .int x6)] → cells ≤ mc → slots ≤ ms → W p l e { frames := 1, cells := mc, slots := ms, locals := 21 } s m args below meth c H locs cells slots (vx_MQ below (QQ D AC A (fun v w9 => v = none ∧ Q w9)) (XX D AC A (fun _ _ => False)) args s mc ms A) (F0 m 194 ls [])) (x0 : Nat) (x1 : Int32) (x2 : Int32) (x3 : Int32) (x4 : Int32) (x5 : Int32) (x6 : Int32) (w : Wd) (hq : wb_Mo_move_290 e0 mi K2 K194 Q x0 x1 x2 x3 x4 x5 x6 w) : ∀ (H : Heap) (locs : List Loc) (cells slots : Nat) (ls : Array Slot), HW D cls8 FTc AC A s.heap H locs w → lv_has ls 7 [(0, va_rf (some x0)), (1, .int x1), (2, .int x2), (3, .int x3), (4, .int x4), (5, .int x5), (6, .int x6)] → cells ≤ mc → slots ≤ ms → W p l e { frames := 1, cells := mc, slots := ms, locals := 21 } s m args below meth c H locs cells slots (vx_MQ below (QQ D AC A (fun v w9 => v = none ∧ Q w9)) (XX D AC A (fun _ _ => False)) args s mc ms A) (F0 m 290 ls []) := by
  obtain ⟨hl0, hx, hb, hr, ht, hown, hlocks, hnm, hml, hex, hK, hA, hZ, hV⟩ := id C
  intro H locs cells slots ls hW hl hc hs
  unfold wb_Mo_move_290 at hq
  obtain ⟨i1, ei1⟩ : ∃ y : Int32, y = x6 + 1 := ⟨_, rfl⟩
  have hq := hq i1 ei1
  refine lv_iinc (v := i1) (lv' := [(6, .int i1), (0, va_rf (some x0)), (1, .int x1), (2, .int x2), (3, .int x3), (4, .int x4), (5, .int x5)]) hx hb d_Mo_move_290 hl (k := 6) rfl (by rw [ei1]; rfl) (by decide) (by simp [bw_cat, cat_i, cat_j]) (fun ls hl => ?_)
  refine lv_goto (tgt := 194) hx hb d_Mo_move_293 (by decide) ?_
  exact hK194 _ _ _ _ _ _ _ _ hq _ _ _ _ _ hW (lv_sub hl [1, 2, 3, 4, 5, 6, 0] rfl) hc hs
def wb_Mo_move_194 (e0 mi : Nat) (K2 : Nat → Int32 → Int32 → Wd → Prop) (Q : Wd → Prop) : Nat → Nat → Int32 → Int32 → Int32 → Int32 → Int32 → Int32 → Wd → Prop
  | 0, _, _, _, _, _, _, _, _ => False
  | n + 1, x0, x1, x2, x3, x4, x5, x6, w => bw_is w x0 6 ∧ (((wI w x0 21) ≤ x6 → (∃ a3 : Nat, (wR w x0 15) = some a3 ∧ (bw_is w a3 101 ∧ (vp_in x3 (wN w a3) ∧ (∀ i6 : Int32, i6 = x2 + 1 → (K2 x0 x1 i6 (sI w a3 x3.toNatClampNeg x5))))))) ∧ (¬ (wI w x0 21) ≤ x6 → (∃ a7 : Nat, (wR w x0 22) = some a7 ∧ (bw_is w a7 101 ∧ (vp_in x6 (wN w a7) ∧ ((¬ (wI w a7 x6.toNatClampNeg) = x1 → (wb_Mo_move_290 e0 mi K2 (wb_Mo_move_194 e0 mi K2 Q n) Q x0 x1 x2 x3 x4 x5 x6 w)) ∧ ((wI w a7 x6.toNatClampNeg) = x1 → (∃ a11 : Nat, (wR w x0 15) = some a11 ∧ (bw_is w a11 101 ∧ (vp_in x3 (wN w a11) ∧ (∃ a14 : Nat, (wR w x0 23) = some a14 ∧ (bw_is w a14 101 ∧ (vp_in x6 (wN w a14) ∧ (((wI w a14 x6.toNatClampNeg) ≤ (wI w a11 x3.toNatClampNeg) → (wb_Mo_move_290 e0 mi K2 (wb_Mo_move_194 e0 mi K2 Q n) Q x0 x1 x2 x3 x4 x5 x6 w)) ∧ (¬ (wI w a14 x6.toNatClampNeg) ≤ (wI w a11 x3.toNatClampNeg) → (vp_in x6 (wN w a14) ∧ (((wI w a14 x6.toNatClampNeg) ≤ x5 → (∃ a20 : Nat, (wR w x0 24) = some a20 ∧ (bw_is w a20 101 ∧ (vp_in x6 (wN w a20) ∧ (∃ a23 : Nat, (wR w x0 26) = some a23 ∧ (bw_is w a23 102 ∧ (vp_in (wI w x0 25) (wN w a23) ∧ (wb_Mo_move_290 e0 mi K2 (wb_Mo_move_194 e0 mi K2 Q n) Q x0 x1 x2 x3 x4 x5 x6 (sI (sJ w a23 (wI w x0 25).toNatClampNeg ((((((wI w x0 1) + (wI w a20 x6.toNatClampNeg)).toInt64) <<< ((32 : Int32).toInt64 &&& 63)) ||| (x3.toInt64 <<< ((8 : Int32).toInt64 &&& 63))) ||| x6.toInt64)) x0 25 ((wI (sJ w a23 (wI w x0 25).toNatClampNeg ((((((wI w x0 1) + (wI w a20 x6.toNatClampNeg)).toInt64) <<< ((32 : Int32).toInt64 &&& 63)) ||| (x3.toInt64 <<< ((8 : Int32).toInt64 &&& 63))) ||| x6.toInt64)) x0 25) + (1 : Int32))))))))))) ∧ (¬ (wI w a14 x6.toNatClampNeg) ≤ x5 → (wb_Mo_move_290 e0 mi K2 (wb_Mo_move_194 e0 mi K2 Q n) Q x0 x1 x2 x3 x4 x5 x6 w)))))))))))))))))))
set_option maxHeartbeats 4000000 in
set_option maxRecDepth 100000 in
theorem k_Mo_move_194 {p : Program} {l : Launch} {e : Env} {s : State} {m : MethodId} {args : Array Value} {below : List Frame} {meth : Method} {c : Code} {D : va_G} {AC : Nat → ClassId} {e0 mi : Nat} {A : Nat → Prop} {mc ms : Nat} {K2 : Nat → Int32 → Int32 → Wd → Prop} {Q : Wd → Prop} (C : Cx p l s m args meth c D AC e0 mi A n_Mo_move b_Mo_move 7 none) (hK2 : ∀ (x0 : Nat) (x1 : Int32) (x2 : Int32) (w : Wd), K2 x0 x1 x2 w → ∀ (H : Heap) (locs : List Loc) (cells slots : Nat) (ls : Array Slot), HW D cls8 FTc AC A s.heap H locs w → lv_has ls 7 [(0, va_rf (some x0)), (1, .int x1), (2, .int x2)] → cells ≤ mc → slots ≤ ms → W p l e { frames := 1, cells := mc, slots := ms, locals := 21 } s m args below meth c H locs cells slots (vx_MQ below (QQ D AC A (fun v w9 => v = none ∧ Q w9)) (XX D AC A (fun _ _ => False)) args s mc ms A) (F0 m 2 ls [])) : ∀ (n : Nat) (x0 : Nat) (x1 : Int32) (x2 : Int32) (x3 : Int32) (x4 : Int32) (x5 : Int32) (x6 : Int32) (w : Wd), wb_Mo_move_194 e0 mi K2 Q n x0 x1 x2 x3 x4 x5 x6 w → ∀ (H : Heap) (locs : List Loc) (cells slots : Nat) (ls : Array Slot), HW D cls8 FTc AC A s.heap H locs w → lv_has ls 7 [(0, va_rf (some x0)), (1, .int x1), (2, .int x2), (3, .int x3), (4, .int x4), (5, .int x5), (6, .int x6)] → cells ≤ mc → slots ≤ ms → W p l e { frames := 1, cells := mc, slots := ms, locals := 21 } s m args below meth c H locs cells slots (vx_MQ below (QQ D AC A (fun v w9 => v = none ∧ Q w9)) (XX D AC A (fun _ _ => False)) args s mc ms A) (F0 m 194 ls []) := by
  obtain ⟨hl0, hx, hb, hr, ht, hown, hlocks, hnm, hml, hex, hK, hA, hZ, hV⟩ := id C
  intro n
  induction n with
  | zero =>
    intro x0 x1 x2 x3 x4 x5 x6 w hq
    exact hq.elim
  | succ n ih =>
    intro x0 x1 x2 x3 x4 x5 x6 w hq H locs cells slots ls hW hl hc hs
    have hK194 := ih
    unfold wb_Mo_move_194 at hq
    refine lv_iload hx hb d_Mo_move_194 (lv_at hl 6 rfl) ?_
    refine bw_aload_n hx hb d_Mo_move_196 rfl (lv_at hl 0 rfl) ?_
    obtain ⟨t1, hq⟩ := hq
    refine bw_getI hx hb ht in_Mo hown hK hW rfl t1 (by decide) rfl 21 (by decide) rfl (ht _ m_765) (fun _ h => h) d_Mo_move_197 ?_
    refine lv_icmp_ge (tgt := 296) hx hb d_Mo_move_200 (by decide) (fun c2 => ?_) (fun c2 => ?_)
    · have hq := hq.1 c2
      refine bw_aload_n hx hb d_Mo_move_296 rfl (lv_at hl 0 rfl) ?_
      refine bw_getR hx hb ht in_Mo hown hK hW rfl t1 (by decide) rfl 15 (by decide) rfl (ht _ m_759) (fun _ h => h) d_Mo_move_297 ?_
      refine lv_iload_n hx hb d_Mo_move_300 rfl (lv_at hl 3 rfl) ?_
      refine lv_iload hx hb d_Mo_move_301 (lv_at hl 5 rfl) ?_
      obtain ⟨a3, ea3, hq⟩ := hq
      obtain ⟨t4, hq⟩ := hq
      obtain ⟨h5, hq⟩ := hq
      refine bw_iast C hW ea3 t4 h5 d_Mo_move_303 (fun H locs hW => ?_)
      obtain ⟨i6, ei6⟩ : ∃ y : Int32, y = x2 + 1 := ⟨_, rfl⟩
      have hq := hq i6 ei6
      refine lv_iinc (v := i6) (lv' := [(2, .int i6), (0, va_rf (some x0)), (1, .int x1), (3, .int x3), (4, .int x4), (5, .int x5), (6, .int x6)]) hx hb d_Mo_move_304 hl (k := 2) rfl (by rw [ei6]; rfl) (by decide) (by simp [bw_cat, cat_i, cat_j]) (fun ls hl => ?_)
      refine lv_goto (tgt := 2) hx hb d_Mo_move_307 (by decide) ?_
      exact hK2 _ _ _ _ hq _ _ _ _ _ hW (lv_sub hl [1, 2, 0] rfl) hc hs
    · have hq := hq.2 c2
      refine bw_aload_n hx hb d_Mo_move_203 rfl (lv_at hl 0 rfl) ?_
      refine bw_getR hx hb ht in_Mo hown hK hW rfl t1 (by decide) rfl 22 (by decide) rfl (ht _ m_766) (fun _ h => h) d_Mo_move_204 ?_
      refine lv_iload hx hb d_Mo_move_207 (lv_at hl 6 rfl) ?_
      obtain ⟨a7, ea7, hq⟩ := hq
      obtain ⟨t8, hq⟩ := hq
      obtain ⟨h9, hq⟩ := hq
      refine bw_iald C hW ea7 t8 h9 d_Mo_move_209 ?_
      refine lv_iload_n hx hb d_Mo_move_210 rfl (lv_at hl 1 rfl) ?_
      refine lv_icmp_ne (tgt := 290) hx hb d_Mo_move_211 (by decide) (fun c10 => ?_) (fun c10 => ?_)
      · have hq := hq.1 c10
        exact k_Mo_move_290 C hK2 hK194 _ _ _ _ _ _ _ _ hq _ _ _ _ _ hW (lv_sub hl [0, 1, 2, 3, 4, 5, 6] rfl) hc hs
      · have hq := hq.2 c10
        refine bw_aload_n hx hb d_Mo_move_214 rfl (lv_at hl 0 rfl) ?_
        refine bw_getR hx hb ht in_Mo hown hK hW rfl t1 (by decide) rfl 15 (by decide) rfl (ht _ m_759) (fun _ h => h) d_Mo_move_215 ?_
        refine lv_iload_n hx hb d_Mo_move_218 rfl (lv_at hl 3 rfl) ?_
        obtain ⟨a11, ea11, hq⟩ := hq
        obtain ⟨t12, hq⟩ := hq
        obtain ⟨h13, hq⟩ := hq
        refine bw_iald C hW ea11 t12 h13 d_Mo_move_219 ?_
        refine bw_aload_n hx hb d_Mo_move_220 rfl (lv_at hl 0 rfl) ?_
        refine bw_getR hx hb ht in_Mo hown hK hW rfl t1 (by decide) rfl 23 (by decide) rfl (ht _ m_767) (fun _ h => h) d_Mo_move_221 ?_
        refine lv_iload hx hb d_Mo_move_224 (lv_at hl 6 rfl) ?_
        obtain ⟨a14, ea14, hq⟩ := hq
        obtain ⟨t15, hq⟩ := hq
        obtain ⟨h16, hq⟩ := hq
        refine bw_iald C hW ea14 t15 h16 d_Mo_move_226 ?_
        refine lv_icmp_ge (tgt := 290) hx hb d_Mo_move_227 (by decide) (fun c17 => ?_) (fun c17 => ?_)
        · have hq := hq.1 c17
          exact k_Mo_move_290 C hK2 hK194 _ _ _ _ _ _ _ _ hq _ _ _ _ _ hW (lv_sub hl [0, 1, 2, 3, 4, 5, 6] rfl) hc hs
        · have hq := hq.2 c17
          refine lv_iload hx hb d_Mo_move_230 (lv_at hl 5 rfl) ?_
          refine bw_aload_n hx hb d_Mo_move_232 rfl (lv_at hl 0 rfl) ?_
          refine bw_getR hx hb ht in_Mo hown hK hW rfl t1 (by decide) rfl 23 (by decide) rfl (ht _ m_767) (fun _ h => h) d_Mo_move_233 ?_
          refine lv_iload hx hb d_Mo_move_236 (lv_at hl 6 rfl) ?_
          obtain ⟨h18, hq⟩ := hq
          refine bw_iald C hW ea14 t15 h18 d_Mo_move_238 ?_
          refine lv_icmp_ge (tgt := 245) hx hb d_Mo_move_239 (by decide) (fun c19 => ?_) (fun c19 => ?_)
          · have hq := hq.1 c19
            refine bw_aload_n hx hb d_Mo_move_245 rfl (lv_at hl 0 rfl) ?_
            refine bw_getR hx hb ht in_Mo hown hK hW rfl t1 (by decide) rfl 26 (by decide) rfl (ht _ m_770) (fun _ h => h) d_Mo_move_246 ?_
            refine bw_aload_n hx hb d_Mo_move_249 rfl (lv_at hl 0 rfl) ?_
            refine bw_getI hx hb ht in_Mo hown hK hW rfl t1 (by decide) rfl 25 (by decide) rfl (ht _ m_769) (fun _ h => h) d_Mo_move_250 ?_
            refine bw_aload_n hx hb d_Mo_move_253 rfl (lv_at hl 0 rfl) ?_
            refine bw_getI hx hb ht in_Mo hown hK hW rfl t1 (by decide) rfl 1 (by decide) rfl (ht _ m_745) (fun _ h => h) d_Mo_move_254 ?_
            refine bw_aload_n hx hb d_Mo_move_257 rfl (lv_at hl 0 rfl) ?_
            refine bw_getR hx hb ht in_Mo hown hK hW rfl t1 (by decide) rfl 24 (by decide) rfl (ht _ m_768) (fun _ h => h) d_Mo_move_258 ?_
            refine lv_iload hx hb d_Mo_move_261 (lv_at hl 6 rfl) ?_
            obtain ⟨a20, ea20, hq⟩ := hq
            obtain ⟨t21, hq⟩ := hq
            obtain ⟨h22, hq⟩ := hq
            refine bw_iald C hW ea20 t21 h22 d_Mo_move_263 ?_
            refine lv_iadd hx hb d_Mo_move_264 ?_
            refine lv_i2l hx hb d_Mo_move_265 rfl ?_
            refine lv_bipush (v := 32) hx hb d_Mo_move_266 (by decide) ?_
            refine lv_lshl hx hb d_Mo_move_268 rfl ?_
            refine lv_iload_n hx hb d_Mo_move_269 rfl (lv_at hl 3 rfl) ?_
            refine lv_i2l hx hb d_Mo_move_270 rfl ?_
            refine lv_bipush (v := 8) hx hb d_Mo_move_271 (by decide) ?_
            refine lv_lshl hx hb d_Mo_move_273 rfl ?_
            refine lv_lor hx hb d_Mo_move_274 ?_
            refine lv_iload hx hb d_Mo_move_275 (lv_at hl 6 rfl) ?_
            refine lv_i2l hx hb d_Mo_move_277 rfl ?_
            refine lv_lor hx hb d_Mo_move_278 ?_
            obtain ⟨a23, ea23, hq⟩ := hq
            obtain ⟨t24, hq⟩ := hq
            obtain ⟨h25, hq⟩ := hq
            refine bw_last C hW ea23 t24 h25 d_Mo_move_279 (fun H locs hW => ?_)
            refine bw_aload_n hx hb d_Mo_move_280 rfl (lv_at hl 0 rfl) ?_
            refine lv_dup hx hb d_Mo_move_281 (bw_cat _) ?_
            refine bw_getI hx hb ht in_Mo hown hK hW rfl t1 (by decide) rfl 25 (by decide) rfl (ht _ m_769) (fun _ h => h) d_Mo_move_282 ?_
            refine lv_iconst (v := 1) hx hb d_Mo_move_285 (by decide) ?_
            refine lv_iadd hx hb d_Mo_move_286 ?_
            refine bw_putI hx hb ht in_Mo y_Mo yk_Mo nm_Mo hown hK hW rfl t1 (by decide) rfl 25 (by decide) rfl (ht _ m_769) (fun _ h => h) (Or.inl rfl) rfl rfl d_Mo_move_287 (fun H locs hW => ?_)
            exact k_Mo_move_290 C hK2 hK194 _ _ _ _ _ _ _ _ hq _ _ _ _ _ hW (lv_sub hl [0, 1, 2, 3, 4, 5, 6] rfl) hc hs
          · have hq := hq.2 c19
            refine lv_goto (tgt := 290) hx hb d_Mo_move_242 (by decide) ?_
            exact k_Mo_move_290 C hK2 hK194 _ _ _ _ _ _ _ _ hq _ _ _ _ _ hW (lv_sub hl [0, 1, 2, 3, 4, 5, 6] rfl) hc hs
def wb_Mo_move_190 (e0 mi : Nat) (K2 : Nat → Int32 → Int32 → Wd → Prop) (Q : Wd → Prop) (x0 : Nat) (x1 : Int32) (x2 : Int32) (x3 : Int32) (x4 : Int32) (x5 : Int32) (z0 : Option Nat) (z1 : Int32) (z2 : Int32) (w : Wd) : Prop :=
  ∃ a1 : Nat, z0 = some a1 ∧ (bw_is w a1 101 ∧ (vp_in z1 (wN w a1) ∧ (∃ n4 : Nat, wb_Mo_move_194 e0 mi K2 Q n4 x0 x1 x2 x3 x4 x5 (0 : Int32) (sI w a1 z1.toNatClampNeg z2))))
set_option maxHeartbeats 4000000 in
set_option maxRecDepth 100000 in
theorem k_Mo_move_190 {p : Program} {l : Launch} {e : Env} {s : State} {m : MethodId} {args : Array Value} {below : List Frame} {meth : Method} {c : Code} {D : va_G} {AC : Nat → ClassId} {e0 mi : Nat} {A : Nat → Prop} {mc ms : Nat} {K2 : Nat → Int32 → Int32 → Wd → Prop} {Q : Wd → Prop} (C : Cx p l s m args meth c D AC e0 mi A n_Mo_move b_Mo_move 7 none) (hK2 : ∀ (x0 : Nat) (x1 : Int32) (x2 : Int32) (w : Wd), K2 x0 x1 x2 w → ∀ (H : Heap) (locs : List Loc) (cells slots : Nat) (ls : Array Slot), HW D cls8 FTc AC A s.heap H locs w → lv_has ls 7 [(0, va_rf (some x0)), (1, .int x1), (2, .int x2)] → cells ≤ mc → slots ≤ ms → W p l e { frames := 1, cells := mc, slots := ms, locals := 21 } s m args below meth c H locs cells slots (vx_MQ below (QQ D AC A (fun v w9 => v = none ∧ Q w9)) (XX D AC A (fun _ _ => False)) args s mc ms A) (F0 m 2 ls [])) (x0 : Nat) (x1 : Int32) (x2 : Int32) (x3 : Int32) (x4 : Int32) (x5 : Int32) (z0 : Option Nat) (z1 : Int32) (z2 : Int32) (w : Wd) (hq : wb_Mo_move_190 e0 mi K2 Q x0 x1 x2 x3 x4 x5 z0 z1 z2 w) : ∀ (H : Heap) (locs : List Loc) (cells slots : Nat) (ls : Array Slot), HW D cls8 FTc AC A s.heap H locs w → lv_has ls 7 [(0, va_rf (some x0)), (1, .int x1), (2, .int x2), (3, .int x3), (4, .int x4), (5, .int x5)] → cells ≤ mc → slots ≤ ms → W p l e { frames := 1, cells := mc, slots := ms, locals := 21 } s m args below meth c H locs cells slots (vx_MQ below (QQ D AC A (fun v w9 => v = none ∧ Q w9)) (XX D AC A (fun _ _ => False)) args s mc ms A) (F0 m 190 ls [.int z2, .int z1, va_rf z0]) := by
  obtain ⟨hl0, hx, hb, hr, ht, hown, hlocks, hnm, hml, hex, hK, hA, hZ, hV⟩ := id C
  intro H locs cells slots ls hW hl hc hs
  unfold wb_Mo_move_190 at hq
  obtain ⟨a1, ea1, hq⟩ := hq
  obtain ⟨t2, hq⟩ := hq
  obtain ⟨h3, hq⟩ := hq
  refine bw_iast C hW ea1 t2 h3 d_Mo_move_190 (fun H locs hW => ?_)
  refine lv_iconst (v := 0) hx hb d_Mo_move_191 (by decide) ?_
  refine lv_istore (lv' := [(6, .int (0 : Int32)), (0, va_rf (some x0)), (1, .int x1), (2, .int x2), (3, .int x3), (4, .int x4), (5, .int x5)]) hx hb d_Mo_move_192 hl (by decide) (by simp [bw_cat, cat_i, cat_j]) (fun ls hl => ?_)
  obtain ⟨n4, hq⟩ := hq
  exact k_Mo_move_194 C hK2 n4 _ _ _ _ _ _ _ _ hq _ _ _ _ _ hW (lv_sub hl [1, 2, 3, 4, 5, 6, 0] rfl) hc hs
def wb_Mo_move_138 (e0 mi : Nat) (K2 : Nat → Int32 → Int32 → Wd → Prop) (Q : Wd → Prop) (x0 : Nat) (x1 : Int32) (x2 : Int32) (x3 : Int32) (x4 : Int32) (x5 : Int32) (z0 : Int32) (w : Wd) : Prop :=
  bw_is w x0 6 ∧ (∃ a2 : Nat, (wR w x0 19) = some a2 ∧ (bw_is w a2 101 ∧ (vp_in x3 (wN w a2) ∧ (∃ a5 : Nat, (wR w x0 5) = some a5 ∧ (bw_is w a5 101 ∧ (vp_in x1 (wN w a5) ∧ (vp_in x3 (wN w a2) ∧ (∃ a9 : Nat, (wR (sI w a2 x3.toNatClampNeg ((wI w a2 x3.toNatClampNeg) + (wI w a5 x1.toNatClampNeg))) x0 19) = some a9 ∧ (bw_is (sI w a2 x3.toNatClampNeg ((wI w a2 x3.toNatClampNeg) + (wI w a5 x1.toNatClampNeg))) a9 101 ∧ (vp_in x3 (wN (sI w a2 x3.toNatClampNeg ((wI w a2 x3.toNatClampNeg) + (wI w a5 x1.toNatClampNeg))) a9) ∧ (∃ a12 : Nat, (wR (sI w a2 x3.toNatClampNeg ((wI w a2 x3.toNatClampNeg) + (wI w a5 x1.toNatClampNeg))) x0 4) = some a12 ∧ (bw_is (sI w a2 x3.toNatClampNeg ((wI w a2 x3.toNatClampNeg) + (wI w a5 x1.toNatClampNeg))) a12 101 ∧ (vp_in x1 (wN (sI w a2 x3.toNatClampNeg ((wI w a2 x3.toNatClampNeg) + (wI w a5 x1.toNatClampNeg))) a12) ∧ (((wI (sI w a2 x3.toNatClampNeg ((wI w a2 x3.toNatClampNeg) + (wI w a5 x1.toNatClampNeg))) a9 x3.toNatClampNeg) ≤ (wI (sI w a2 x3.toNatClampNeg ((wI w a2 x3.toNatClampNeg) + (wI w a5 x1.toNatClampNeg))) a12 x1.toNatClampNeg) → (vp_in x3 (wN (sI w a2 x3.toNatClampNeg ((wI w a2 x3.toNatClampNeg) + (wI w a5 x1.toNatClampNeg))) a9) ∧ (wb_Mo_move_190 e0 mi K2 Q x0 x1 x2 x3 x4 z0 (wR (sI w a2 x3.toNatClampNeg ((wI w a2 x3.toNatClampNeg) + (wI w a5 x1.toNatClampNeg))) x0 19) x3 (wI (sI w a2 x3.toNatClampNeg ((wI w a2 x3.toNatClampNeg) + (wI w a5 x1.toNatClampNeg))) a9 x3.toNatClampNeg) (sI w a2 x3.toNatClampNeg ((wI w a2 x3.toNatClampNeg) + (wI w a5 x1.toNatClampNeg)))))) ∧ (¬ (wI (sI w a2 x3.toNatClampNeg ((wI w a2 x3.toNatClampNeg) + (wI w a5 x1.toNatClampNeg))) a9 x3.toNatClampNeg) ≤ (wI (sI w a2 x3.toNatClampNeg ((wI w a2 x3.toNatClampNeg) + (wI w a5 x1.toNatClampNeg))) a12 x1.toNatClampNeg) → (vp_in x1 (wN (sI w a2 x3.toNatClampNeg ((wI w a2 x3.toNatClampNeg) + (wI w a5 x1.toNatClampNeg))) a12) ∧ (wb_Mo_move_190 e0 mi K2 Q x0 x1 x2 x3 x4 z0 (wR (sI w a2 x3.toNatClampNeg ((wI w a2 x3.toNatClampNeg) + (wI w a5 x1.toNatClampNeg))) x0 19) x3 (wI (sI w a2 x3.toNatClampNeg ((wI w a2 x3.toNatClampNeg) + (wI w a5 x1.toNatClampNeg))) a12 x1.toNatClampNeg) (sI w a2 x3.toNatClampNeg ((wI w a2 x3.toNatClampNeg) + (wI w a5 x1.toNatClampNeg))))))))))))))))))))
set_option maxHeartbeats 4000000 in
set_option maxRecDepth 100000 in
theorem k_Mo_move_138 {p : Program} {l : Launch} {e : Env} {s : State} {m : MethodId} {args : Array Value} {below : List Frame} {meth : Method} {c : Code} {D : va_G} {AC : Nat → ClassId} {e0 mi : Nat} {A : Nat → Prop} {mc ms : Nat} {K2 : Nat → Int32 → Int32 → Wd → Prop} {Q : Wd → Prop} (C : Cx p l s m args meth c D AC e0 mi A n_Mo_move b_Mo_move 7 none) (hK2 : ∀ (x0 : Nat) (x1 : Int32) (x2 : Int32) (w : Wd), K2 x0 x1 x2 w → ∀ (H : Heap) (locs : List Loc) (cells slots : Nat) (ls : Array Slot), HW D cls8 FTc AC A s.heap H locs w → lv_has ls 7 [(0, va_rf (some x0)), (1, .int x1), (2, .int x2)] → cells ≤ mc → slots ≤ ms → W p l e { frames := 1, cells := mc, slots := ms, locals := 21 } s m args below meth c H locs cells slots (vx_MQ below (QQ D AC A (fun v w9 => v = none ∧ Q w9)) (XX D AC A (fun _ _ => False)) args s mc ms A) (F0 m 2 ls [])) (x0 : Nat) (x1 : Int32) (x2 : Int32) (x3 : Int32) (x4 : Int32) (x5 : Int32) (z0 : Int32) (w : Wd) (hq : wb_Mo_move_138 e0 mi K2 Q x0 x1 x2 x3 x4 x5 z0 w) : ∀ (H : Heap) (locs : List Loc) (cells slots : Nat) (ls : Array Slot), HW D cls8 FTc AC A s.heap H locs w → lv_has ls 7 [(0, va_rf (some x0)), (1, .int x1), (2, .int x2), (3, .int x3), (4, .int x4), (5, .int x5)] → cells ≤ mc → slots ≤ ms → W p l e { frames := 1, cells := mc, slots := ms, locals := 21 } s m args below meth c H locs cells slots (vx_MQ below (QQ D AC A (fun v w9 => v = none ∧ Q w9)) (XX D AC A (fun _ _ => False)) args s mc ms A) (F0 m 138 ls [.int z0]) := by
  obtain ⟨hl0, hx, hb, hr, ht, hown, hlocks, hnm, hml, hex, hK, hA, hZ, hV⟩ := id C
  intro H locs cells slots ls hW hl hc hs
  unfold wb_Mo_move_138 at hq
  refine lv_istore (lv' := [(5, .int z0), (0, va_rf (some x0)), (1, .int x1), (2, .int x2), (3, .int x3), (4, .int x4)]) hx hb d_Mo_move_138 hl (by decide) (by simp [bw_cat, cat_i, cat_j]) (fun ls hl => ?_)
  refine bw_aload_n hx hb d_Mo_move_140 rfl (lv_at hl 1 rfl) ?_
  obtain ⟨t1, hq⟩ := hq
  refine bw_getR hx hb ht in_Mo hown hK hW rfl t1 (by decide) rfl 19 (by decide) rfl (ht _ m_763) (fun _ h => h) d_Mo_move_141 ?_
  refine lv_iload_n hx hb d_Mo_move_144 rfl (lv_at hl 4 rfl) ?_
  refine lv_dup2_11 hx hb d_Mo_move_145 rfl (bw_cat _) ?_
  obtain ⟨a2, ea2, hq⟩ := hq
  obtain ⟨t3, hq⟩ := hq
  obtain ⟨h4, hq⟩ := hq
  refine bw_iald C hW ea2 t3 h4 d_Mo_move_146 ?_
  refine bw_aload_n hx hb d_Mo_move_147 rfl (lv_at hl 1 rfl) ?_
  refine bw_getR hx hb ht in_Mo hown hK hW rfl t1 (by decide) rfl 5 (by decide) rfl (ht _ m_749) (fun _ h => h) d_Mo_move_148 ?_
  refine lv_iload_n hx hb d_Mo_move_151 rfl (lv_at hl 2 rfl) ?_
  obtain ⟨a5, ea5, hq⟩ := hq
  obtain ⟨t6, hq⟩ := hq
  obtain ⟨h7, hq⟩ := hq
  refine bw_iald C hW ea5 t6 h7 d_Mo_move_152 ?_
  refine lv_iadd hx hb d_Mo_move_153 ?_
  obtain ⟨h8, hq⟩ := hq
  refine bw_iast C hW ea2 t3 h8 d_Mo_move_154 (fun H locs hW => ?_)
  refine bw_aload_n hx hb d_Mo_move_155 rfl (lv_at hl 1 rfl) ?_
  refine bw_getR hx hb ht in_Mo hown hK hW rfl t1 (by decide) rfl 19 (by decide) rfl (ht _ m_763) (fun _ h => h) d_Mo_move_156 ?_
  refine lv_iload_n hx hb d_Mo_move_159 rfl (lv_at hl 4 rfl) ?_
  refine bw_aload_n hx hb d_Mo_move_160 rfl (lv_at hl 1 rfl) ?_
  refine bw_getR hx hb ht in_Mo hown hK hW rfl t1 (by decide) rfl 19 (by decide) rfl (ht _ m_763) (fun _ h => h) d_Mo_move_161 ?_
  refine lv_iload_n hx hb d_Mo_move_164 rfl (lv_at hl 4 rfl) ?_
  obtain ⟨a9, ea9, hq⟩ := hq
  obtain ⟨t10, hq⟩ := hq
  obtain ⟨h11, hq⟩ := hq
  refine bw_iald C hW ea9 t10 h11 d_Mo_move_165 ?_
  refine bw_aload_n hx hb d_Mo_move_166 rfl (lv_at hl 1 rfl) ?_
  refine bw_getR hx hb ht in_Mo hown hK hW rfl t1 (by decide) rfl 4 (by decide) rfl (ht _ m_748) (fun _ h => h) d_Mo_move_167 ?_
  refine lv_iload_n hx hb d_Mo_move_170 rfl (lv_at hl 2 rfl) ?_
  obtain ⟨a12, ea12, hq⟩ := hq
  obtain ⟨t13, hq⟩ := hq
  obtain ⟨h14, hq⟩ := hq
  refine bw_iald C hW ea12 t13 h14 d_Mo_move_171 ?_
  refine lv_icmp_le (tgt := 184) hx hb d_Mo_move_172 (by decide) (fun c15 => ?_) (fun c15 => ?_)
  · have hq := hq.1 c15
    refine bw_aload_n hx hb d_Mo_move_184 rfl (lv_at hl 1 rfl) ?_
    refine bw_getR hx hb ht in_Mo hown hK hW rfl t1 (by decide) rfl 19 (by decide) rfl (ht _ m_763) (fun _ h => h) d_Mo_move_185 ?_
    refine lv_iload_n hx hb d_Mo_move_188 rfl (lv_at hl 4 rfl) ?_
    obtain ⟨h16, hq⟩ := hq
    refine bw_iald C hW ea9 t10 h16 d_Mo_move_189 ?_
    exact k_Mo_move_190 C hK2 _ _ _ _ _ _ _ _ _ _ hq _ _ _ _ _ hW (lv_sub hl [1, 2, 3, 4, 5, 0] rfl) hc hs
  · have hq := hq.2 c15
    refine bw_aload_n hx hb d_Mo_move_175 rfl (lv_at hl 1 rfl) ?_
    refine bw_getR hx hb ht in_Mo hown hK hW rfl t1 (by decide) rfl 4 (by decide) rfl (ht _ m_748) (fun _ h => h) d_Mo_move_176 ?_
    refine lv_iload_n hx hb d_Mo_move_179 rfl (lv_at hl 2 rfl) ?_
    obtain ⟨h17, hq⟩ := hq
    refine bw_iald C hW ea12 t13 h17 d_Mo_move_180 ?_
    refine lv_goto (tgt := 190) hx hb d_Mo_move_181 (by decide) ?_
    exact k_Mo_move_190 C hK2 _ _ _ _ _ _ _ _ _ _ hq _ _ _ _ _ hW (lv_sub hl [1, 2, 3, 4, 5, 0] rfl) hc hs
def wb_Mo_move_114 (e0 mi : Nat) (K2 : Nat → Int32 → Int32 → Wd → Prop) (Q : Wd → Prop) (x0 : Nat) (x1 : Int32) (x2 : Int32) (x3 : Int32) (x4 : Int32) (x5 : Int32) (z0 : Int32) (w : Wd) : Prop :=
  bw_is w x0 6 ∧ (∃ a2 : Nat, (wR w x0 15) = some a2 ∧ (bw_is w a2 101 ∧ (vp_in x3 (wN w a2) ∧ (((wI w a2 x3.toNatClampNeg) ≤ z0 → (wb_Mo_move_138 e0 mi K2 Q x0 x1 x2 x3 x4 z0 z0 w)) ∧ (¬ (wI w a2 x3.toNatClampNeg) ≤ z0 → (vp_in x3 (wN w a2) ∧ (wb_Mo_move_138 e0 mi K2 Q x0 x1 x2 x3 x4 z0 (wI w a2 x3.toNatClampNeg) w)))))))
set_option maxHeartbeats 4000000 in
set_option maxRecDepth 100000 in
theorem k_Mo_move_114 {p : Program} {l : Launch} {e : Env} {s : State} {m : MethodId} {args : Array Value} {below : List Frame} {meth : Method} {c : Code} {D : va_G} {AC : Nat → ClassId} {e0 mi : Nat} {A : Nat → Prop} {mc ms : Nat} {K2 : Nat → Int32 → Int32 → Wd → Prop} {Q : Wd → Prop} (C : Cx p l s m args meth c D AC e0 mi A n_Mo_move b_Mo_move 7 none) (hK2 : ∀ (x0 : Nat) (x1 : Int32) (x2 : Int32) (w : Wd), K2 x0 x1 x2 w → ∀ (H : Heap) (locs : List Loc) (cells slots : Nat) (ls : Array Slot), HW D cls8 FTc AC A s.heap H locs w → lv_has ls 7 [(0, va_rf (some x0)), (1, .int x1), (2, .int x2)] → cells ≤ mc → slots ≤ ms → W p l e { frames := 1, cells := mc, slots := ms, locals := 21 } s m args below meth c H locs cells slots (vx_MQ below (QQ D AC A (fun v w9 => v = none ∧ Q w9)) (XX D AC A (fun _ _ => False)) args s mc ms A) (F0 m 2 ls [])) (x0 : Nat) (x1 : Int32) (x2 : Int32) (x3 : Int32) (x4 : Int32) (x5 : Int32) (z0 : Int32) (w : Wd) (hq : wb_Mo_move_114 e0 mi K2 Q x0 x1 x2 x3 x4 x5 z0 w) : ∀ (H : Heap) (locs : List Loc) (cells slots : Nat) (ls : Array Slot), HW D cls8 FTc AC A s.heap H locs w → lv_has ls 7 [(0, va_rf (some x0)), (1, .int x1), (2, .int x2), (3, .int x3), (4, .int x4), (5, .int x5)] → cells ≤ mc → slots ≤ ms → W p l e { frames := 1, cells := mc, slots := ms, locals := 21 } s m args below meth c H locs cells slots (vx_MQ below (QQ D AC A (fun v w9 => v = none ∧ Q w9)) (XX D AC A (fun _ _ => False)) args s mc ms A) (F0 m 114 ls [.int z0]) := by
  obtain ⟨hl0, hx, hb, hr, ht, hown, hlocks, hnm, hml, hex, hK, hA, hZ, hV⟩ := id C
  intro H locs cells slots ls hW hl hc hs
  unfold wb_Mo_move_114 at hq
  refine lv_istore (lv' := [(5, .int z0), (0, va_rf (some x0)), (1, .int x1), (2, .int x2), (3, .int x3), (4, .int x4)]) hx hb d_Mo_move_114 hl (by decide) (by simp [bw_cat, cat_i, cat_j]) (fun ls hl => ?_)
  refine lv_iload hx hb d_Mo_move_116 (lv_at hl 0 rfl) ?_
  refine bw_aload_n hx hb d_Mo_move_118 rfl (lv_at hl 1 rfl) ?_
  obtain ⟨t1, hq⟩ := hq
  refine bw_getR hx hb ht in_Mo hown hK hW rfl t1 (by decide) rfl 15 (by decide) rfl (ht _ m_759) (fun _ h => h) d_Mo_move_119 ?_
  refine lv_iload_n hx hb d_Mo_move_122 rfl (lv_at hl 4 rfl) ?_
  obtain ⟨a2, ea2, hq⟩ := hq
  obtain ⟨t3, hq⟩ := hq
  obtain ⟨h4, hq⟩ := hq
  refine bw_iald C hW ea2 t3 h4 d_Mo_move_123 ?_
  refine lv_icmp_ge (tgt := 136) hx hb d_Mo_move_124 (by decide) (fun c5 => ?_) (fun c5 => ?_)
  · have hq := hq.1 c5
    refine lv_iload hx hb d_Mo_move_136 (lv_at hl 0 rfl) ?_
    exact k_Mo_move_138 C hK2 _ _ _ _ _ _ _ _ hq _ _ _ _ _ hW (lv_sub hl [1, 2, 3, 4, 5, 0] rfl) hc hs
  · have hq := hq.2 c5
    refine bw_aload_n hx hb d_Mo_move_127 rfl (lv_at hl 1 rfl) ?_
    refine bw_getR hx hb ht in_Mo hown hK hW rfl t1 (by decide) rfl 15 (by decide) rfl (ht _ m_759) (fun _ h => h) d_Mo_move_128 ?_
    refine lv_iload_n hx hb d_Mo_move_131 rfl (lv_at hl 4 rfl) ?_
    obtain ⟨h6, hq⟩ := hq
    refine bw_iald C hW ea2 t3 h6 d_Mo_move_132 ?_
    refine lv_goto (tgt := 138) hx hb d_Mo_move_133 (by decide) ?_
    exact k_Mo_move_138 C hK2 _ _ _ _ _ _ _ _ hq _ _ _ _ _ hW (lv_sub hl [1, 2, 3, 4, 5, 0] rfl) hc hs
def wb_Mo_move_98 (e0 mi : Nat) (K2 : Nat → Int32 → Int32 → Wd → Prop) (Q : Wd → Prop) (x0 : Nat) (x1 : Int32) (x2 : Int32) (x3 : Int32) (x4 : Int32) (x5 : Int32) (z0 : Int32) (w : Wd) : Prop :=
  (z0 ≤ x4 → (wb_Mo_move_114 e0 mi K2 Q x0 x1 x2 x3 x4 z0 z0 w)) ∧ (¬ z0 ≤ x4 → (wb_Mo_move_114 e0 mi K2 Q x0 x1 x2 x3 x4 z0 x4 w))
set_option maxHeartbeats 4000000 in
set_option maxRecDepth 100000 in
theorem k_Mo_move_98 {p : Program} {l : Launch} {e : Env} {s : State} {m : MethodId} {args : Array Value} {below : List Frame} {meth : Method} {c : Code} {D : va_G} {AC : Nat → ClassId} {e0 mi : Nat} {A : Nat → Prop} {mc ms : Nat} {K2 : Nat → Int32 → Int32 → Wd → Prop} {Q : Wd → Prop} (C : Cx p l s m args meth c D AC e0 mi A n_Mo_move b_Mo_move 7 none) (hK2 : ∀ (x0 : Nat) (x1 : Int32) (x2 : Int32) (w : Wd), K2 x0 x1 x2 w → ∀ (H : Heap) (locs : List Loc) (cells slots : Nat) (ls : Array Slot), HW D cls8 FTc AC A s.heap H locs w → lv_has ls 7 [(0, va_rf (some x0)), (1, .int x1), (2, .int x2)] → cells ≤ mc → slots ≤ ms → W p l e { frames := 1, cells := mc, slots := ms, locals := 21 } s m args below meth c H locs cells slots (vx_MQ below (QQ D AC A (fun v w9 => v = none ∧ Q w9)) (XX D AC A (fun _ _ => False)) args s mc ms A) (F0 m 2 ls [])) (x0 : Nat) (x1 : Int32) (x2 : Int32) (x3 : Int32) (x4 : Int32) (x5 : Int32) (z0 : Int32) (w : Wd) (hq : wb_Mo_move_98 e0 mi K2 Q x0 x1 x2 x3 x4 x5 z0 w) : ∀ (H : Heap) (locs : List Loc) (cells slots : Nat) (ls : Array Slot), HW D cls8 FTc AC A s.heap H locs w → lv_has ls 7 [(0, va_rf (some x0)), (1, .int x1), (2, .int x2), (3, .int x3), (4, .int x4), (5, .int x5)] → cells ≤ mc → slots ≤ ms → W p l e { frames := 1, cells := mc, slots := ms, locals := 21 } s m args below meth c H locs cells slots (vx_MQ below (QQ D AC A (fun v w9 => v = none ∧ Q w9)) (XX D AC A (fun _ _ => False)) args s mc ms A) (F0 m 98 ls [.int z0]) := by
  obtain ⟨hl0, hx, hb, hr, ht, hown, hlocks, hnm, hml, hex, hK, hA, hZ, hV⟩ := id C
  intro H locs cells slots ls hW hl hc hs
  unfold wb_Mo_move_98 at hq
  refine lv_istore (lv' := [(5, .int z0), (0, va_rf (some x0)), (1, .int x1), (2, .int x2), (3, .int x3), (4, .int x4)]) hx hb d_Mo_move_98 hl (by decide) (by simp [bw_cat, cat_i, cat_j]) (fun ls hl => ?_)
  refine lv_iload hx hb d_Mo_move_100 (lv_at hl 0 rfl) ?_
  refine lv_iload hx hb d_Mo_move_102 (lv_at hl 5 rfl) ?_
  refine lv_icmp_le (tgt := 112) hx hb d_Mo_move_104 (by decide) (fun c1 => ?_) (fun c1 => ?_)
  · have hq := hq.1 c1
    refine lv_iload hx hb d_Mo_move_112 (lv_at hl 0 rfl) ?_
    exact k_Mo_move_114 C hK2 _ _ _ _ _ _ _ _ hq _ _ _ _ _ hW (lv_sub hl [1, 2, 3, 4, 5, 0] rfl) hc hs
  · have hq := hq.2 c1
    refine lv_iload hx hb d_Mo_move_107 (lv_at hl 5 rfl) ?_
    refine lv_goto (tgt := 114) hx hb d_Mo_move_109 (by decide) ?_
    exact k_Mo_move_114 C hK2 _ _ _ _ _ _ _ _ hq _ _ _ _ _ hW (lv_sub hl [1, 2, 3, 4, 5, 0] rfl) hc hs
def wb_Mo_move_59 (e0 mi : Nat) (K2 : Nat → Int32 → Int32 → Wd → Prop) (Q : Wd → Prop) (x0 : Nat) (x1 : Int32) (x2 : Int32) (x3 : Int32) (z0 : Int32) (w : Wd) : Prop :=
  bw_is w x0 6 ∧ (∃ a2 : Nat, (wR w x0 15) = some a2 ∧ (bw_is w a2 101 ∧ (vp_in x3 (wN w a2) ∧ (∃ a5 : Nat, (wR w x0 5) = some a5 ∧ (bw_is w a5 101 ∧ (vp_in x1 (wN w a5) ∧ (∀ i8 : Int32, i8 = (wI w a2 x3.toNatClampNeg) + (wI w a5 x1.toNatClampNeg) → (∃ a9 : Nat, (wR w x0 4) = some a9 ∧ (bw_is w a9 101 ∧ (vp_in x1 (wN w a9) ∧ ((i8 ≤ (wI w a9 x1.toNatClampNeg) → (wb_Mo_move_98 e0 mi K2 Q x0 x1 x2 x3 z0 i8 i8 w)) ∧ (¬ i8 ≤ (wI w a9 x1.toNatClampNeg) → (vp_in x1 (wN w a9) ∧ (wb_Mo_move_98 e0 mi K2 Q x0 x1 x2 x3 z0 i8 (wI w a9 x1.toNatClampNeg) w))))))))))))))
set_option maxHeartbeats 4000000 in
set_option maxRecDepth 100000 in
theorem k_Mo_move_59 {p : Program} {l : Launch} {e : Env} {s : State} {m : MethodId} {args : Array Value} {below : List Frame} {meth : Method} {c : Code} {D : va_G} {AC : Nat → ClassId} {e0 mi : Nat} {A : Nat → Prop} {mc ms : Nat} {K2 : Nat → Int32 → Int32 → Wd → Prop} {Q : Wd → Prop} (C : Cx p l s m args meth c D AC e0 mi A n_Mo_move b_Mo_move 7 none) (hK2 : ∀ (x0 : Nat) (x1 : Int32) (x2 : Int32) (w : Wd), K2 x0 x1 x2 w → ∀ (H : Heap) (locs : List Loc) (cells slots : Nat) (ls : Array Slot), HW D cls8 FTc AC A s.heap H locs w → lv_has ls 7 [(0, va_rf (some x0)), (1, .int x1), (2, .int x2)] → cells ≤ mc → slots ≤ ms → W p l e { frames := 1, cells := mc, slots := ms, locals := 21 } s m args below meth c H locs cells slots (vx_MQ below (QQ D AC A (fun v w9 => v = none ∧ Q w9)) (XX D AC A (fun _ _ => False)) args s mc ms A) (F0 m 2 ls [])) (x0 : Nat) (x1 : Int32) (x2 : Int32) (x3 : Int32) (z0 : Int32) (w : Wd) (hq : wb_Mo_move_59 e0 mi K2 Q x0 x1 x2 x3 z0 w) : ∀ (H : Heap) (locs : List Loc) (cells slots : Nat) (ls : Array Slot), HW D cls8 FTc AC A s.heap H locs w → lv_has ls 7 [(0, va_rf (some x0)), (1, .int x1), (2, .int x2), (3, .int x3)] → cells ≤ mc → slots ≤ ms → W p l e { frames := 1, cells := mc, slots := ms, locals := 21 } s m args below meth c H locs cells slots (vx_MQ below (QQ D AC A (fun v w9 => v = none ∧ Q w9)) (XX D AC A (fun _ _ => False)) args s mc ms A) (F0 m 59 ls [.int z0]) := by
  obtain ⟨hl0, hx, hb, hr, ht, hown, hlocks, hnm, hml, hex, hK, hA, hZ, hV⟩ := id C
  intro H locs cells slots ls hW hl hc hs
  unfold wb_Mo_move_59 at hq
  refine lv_istore (lv' := [(4, .int z0), (0, va_rf (some x0)), (1, .int x1), (2, .int x2), (3, .int x3)]) hx hb d_Mo_move_59 hl (by decide) (by simp [bw_cat, cat_i, cat_j]) (fun ls hl => ?_)
  refine bw_aload_n hx hb d_Mo_move_61 rfl (lv_at hl 1 rfl) ?_
  obtain ⟨t1, hq⟩ := hq
  refine bw_getR hx hb ht in_Mo hown hK hW rfl t1 (by decide) rfl 15 (by decide) rfl (ht _ m_759) (fun _ h => h) d_Mo_move_62 ?_
  refine lv_iload_n hx hb d_Mo_move_65 rfl (lv_at hl 4 rfl) ?_
  obtain ⟨a2, ea2, hq⟩ := hq
  obtain ⟨t3, hq⟩ := hq
  obtain ⟨h4, hq⟩ := hq
  refine bw_iald C hW ea2 t3 h4 d_Mo_move_66 ?_
  refine bw_aload_n hx hb d_Mo_move_67 rfl (lv_at hl 1 rfl) ?_
  refine bw_getR hx hb ht in_Mo hown hK hW rfl t1 (by decide) rfl 5 (by decide) rfl (ht _ m_749) (fun _ h => h) d_Mo_move_68 ?_
  refine lv_iload_n hx hb d_Mo_move_71 rfl (lv_at hl 2 rfl) ?_
  obtain ⟨a5, ea5, hq⟩ := hq
  obtain ⟨t6, hq⟩ := hq
  obtain ⟨h7, hq⟩ := hq
  refine bw_iald C hW ea5 t6 h7 d_Mo_move_72 ?_
  refine lv_iadd hx hb d_Mo_move_73 ?_
  refine lv_topi (fun i8 ei8 => ?_)
  have hq := hq i8 ei8
  refine lv_istore (lv' := [(5, .int i8), (4, .int z0), (0, va_rf (some x0)), (1, .int x1), (2, .int x2), (3, .int x3)]) hx hb d_Mo_move_74 hl (by decide) (by simp [bw_cat, cat_i, cat_j]) (fun ls hl => ?_)
  refine lv_iload hx hb d_Mo_move_76 (lv_at hl 0 rfl) ?_
  refine bw_aload_n hx hb d_Mo_move_78 rfl (lv_at hl 2 rfl) ?_
  refine bw_getR hx hb ht in_Mo hown hK hW rfl t1 (by decide) rfl 4 (by decide) rfl (ht _ m_748) (fun _ h => h) d_Mo_move_79 ?_
  refine lv_iload_n hx hb d_Mo_move_82 rfl (lv_at hl 3 rfl) ?_
  obtain ⟨a9, ea9, hq⟩ := hq
  obtain ⟨t10, hq⟩ := hq
  obtain ⟨h11, hq⟩ := hq
  refine bw_iald C hW ea9 t10 h11 d_Mo_move_83 ?_
  refine lv_icmp_le (tgt := 96) hx hb d_Mo_move_84 (by decide) (fun c12 => ?_) (fun c12 => ?_)
  · have hq := hq.1 c12
    refine lv_iload hx hb d_Mo_move_96 (lv_at hl 0 rfl) ?_
    exact k_Mo_move_98 C hK2 _ _ _ _ _ _ _ _ hq _ _ _ _ _ hW (lv_sub hl [2, 3, 4, 5, 1, 0] rfl) hc hs
  · have hq := hq.2 c12
    refine bw_aload_n hx hb d_Mo_move_87 rfl (lv_at hl 2 rfl) ?_
    refine bw_getR hx hb ht in_Mo hown hK hW rfl t1 (by decide) rfl 4 (by decide) rfl (ht _ m_748) (fun _ h => h) d_Mo_move_88 ?_
    refine lv_iload_n hx hb d_Mo_move_91 rfl (lv_at hl 3 rfl) ?_
    obtain ⟨h13, hq⟩ := hq
    refine bw_iald C hW ea9 t10 h13 d_Mo_move_92 ?_
    refine lv_goto (tgt := 98) hx hb d_Mo_move_93 (by decide) ?_
    exact k_Mo_move_98 C hK2 _ _ _ _ _ _ _ _ hq _ _ _ _ _ hW (lv_sub hl [2, 3, 4, 5, 1, 0] rfl) hc hs
def wb_Mo_move_2 (e0 mi : Nat) (Q : Wd → Prop) : Nat → Nat → Int32 → Int32 → Wd → Prop
  | 0, _, _, _, _ => False
  | n + 1, x0, x1, x2, w => bw_is w x0 6 ∧ (∃ a2 : Nat, (wR w x0 10) = some a2 ∧ (bw_is w a2 101 ∧ (vp_in x1 (wN w a2) ∧ (((wI w a2 x1.toNatClampNeg) ≤ x2 → (Q w)) ∧ (¬ (wI w a2 x1.toNatClampNeg) ≤ x2 → (∃ a6 : Nat, (wR w x0 11) = some a6 ∧ (bw_is w a6 101 ∧ (vp_in (((60 : Int32) * x1) + x2) (wN w a6) ∧ (∀ i9 : Int32, i9 = wI w a6 (((60 : Int32) * x1) + x2).toNatClampNeg → ((¬ x2 = 0 → (vp_in ((((60 : Int32) * x1) + x2) - (1 : Int32)) (wN w a6) ∧ (wp_Mo_rear e0 mi x0 (wI w a6 ((((60 : Int32) * x1) + x2) - (1 : Int32)).toNatClampNeg) w (fun i18 w13 => bw_is w13 x0 6 ∧ (wb_Mo_move_59 e0 mi (wb_Mo_move_2 e0 mi Q n) Q x0 x1 x2 i9 (i18 - (wI w13 x0 2)) w13))))) ∧ (x2 = 0 → (∃ a20 : Nat, (wR w x0 4) = some a20 ∧ (bw_is w a20 101 ∧ (vp_in x1 (wN w a20) ∧ (wb_Mo_move_59 e0 mi (wb_Mo_move_2 e0 mi Q n) Q x0 x1 x2 i9 (wI w a20 x1.toNatClampNeg) w)))))))))))))))
set_option maxHeartbeats 4000000 in
set_option maxRecDepth 100000 in
theorem k_Mo_move_2 {p : Program} {l : Launch} {e : Env} {s : State} {m : MethodId} {args : Array Value} {below : List Frame} {meth : Method} {c : Code} {D : va_G} {AC : Nat → ClassId} {e0 mi : Nat} {A : Nat → Prop} {mc ms : Nat} {Q : Wd → Prop} (C : Cx p l s m args meth c D AC e0 mi A n_Mo_move b_Mo_move 7 none) : ∀ (n : Nat) (x0 : Nat) (x1 : Int32) (x2 : Int32) (w : Wd), wb_Mo_move_2 e0 mi Q n x0 x1 x2 w → ∀ (H : Heap) (locs : List Loc) (cells slots : Nat) (ls : Array Slot), HW D cls8 FTc AC A s.heap H locs w → lv_has ls 7 [(0, va_rf (some x0)), (1, .int x1), (2, .int x2)] → cells ≤ mc → slots ≤ ms → W p l e { frames := 1, cells := mc, slots := ms, locals := 21 } s m args below meth c H locs cells slots (vx_MQ below (QQ D AC A (fun v w9 => v = none ∧ Q w9)) (XX D AC A (fun _ _ => False)) args s mc ms A) (F0 m 2 ls []) := by
  obtain ⟨hl0, hx, hb, hr, ht, hown, hlocks, hnm, hml, hex, hK, hA, hZ, hV⟩ := id C
  intro n
  induction n with
  | zero =>
    intro x0 x1 x2 w hq
    exact hq.elim
  | succ n ih =>
    intro x0 x1 x2 w hq H locs cells slots ls hW hl hc hs
    have hK2 := ih
    unfold wb_Mo_move_2 at hq
    refine lv_iload_n hx hb d_Mo_move_2 rfl (lv_at hl 2 rfl) ?_
    refine bw_aload_n hx hb d_Mo_move_3 rfl (lv_at hl 0 rfl) ?_
    obtain ⟨t1, hq⟩ := hq
    refine bw_getR hx hb ht in_Mo hown hK hW rfl t1 (by decide) rfl 10 (by decide) rfl (ht _ m_754) (fun _ h => h) d_Mo_move_4 ?_
    refine lv_iload_n hx hb d_Mo_move_7 rfl (lv_at hl 1 rfl) ?_
    obtain ⟨a2, ea2, hq⟩ := hq
    obtain ⟨t3, hq⟩ := hq
    obtain ⟨h4, hq⟩ := hq
    refine bw_iald C hW ea2 t3 h4 d_Mo_move_8 ?_
    refine lv_icmp_ge (tgt := 310) hx hb d_Mo_move_9 (by decide) (fun c5 => ?_) (fun c5 => ?_)
    · have hq := hq.1 c5
      exact bw_vret C hW ⟨rfl, hq⟩ d_Mo_move_310 hc hs
    · have hq := hq.2 c5
      refine bw_aload_n hx hb d_Mo_move_12 rfl (lv_at hl 0 rfl) ?_
      refine bw_getR hx hb ht in_Mo hown hK hW rfl t1 (by decide) rfl 11 (by decide) rfl (ht _ m_755) (fun _ h => h) d_Mo_move_13 ?_
      refine lv_bipush (v := 60) hx hb d_Mo_move_16 (by decide) ?_
      refine lv_iload_n hx hb d_Mo_move_18 rfl (lv_at hl 1 rfl) ?_
      refine lv_imul hx hb d_Mo_move_19 ?_
      refine lv_iload_n hx hb d_Mo_move_20 rfl (lv_at hl 2 rfl) ?_
      refine lv_iadd hx hb d_Mo_move_21 ?_
      obtain ⟨a6, ea6, hq⟩ := hq
      obtain ⟨t7, hq⟩ := hq
      obtain ⟨h8, hq⟩ := hq
      refine bw_iald C hW ea6 t7 h8 d_Mo_move_22 ?_
      refine lv_topi (fun i9 ei9 => ?_)
      have hq := hq i9 ei9
      refine lv_istore_n (i := 3) (lv' := [(3, .int i9), (0, va_rf (some x0)), (1, .int x1), (2, .int x2)]) hx hb d_Mo_move_23 rfl hl (by decide) (by simp [bw_cat, cat_i, cat_j]) (fun ls hl => ?_)
      refine lv_iload_n hx hb d_Mo_move_24 rfl (lv_at hl 3 rfl) ?_
      refine lv_if_ne (tgt := 37) hx hb d_Mo_move_25 (by decide) (fun c10 => ?_) (fun c10 => ?_)
      · have hq := hq.1 c10
        refine bw_aload_n hx hb d_Mo_move_37 rfl (lv_at hl 1 rfl) ?_
        refine bw_aload_n hx hb d_Mo_move_38 rfl (lv_at hl 1 rfl) ?_
        refine bw_getR hx hb ht in_Mo hown hK hW rfl t1 (by decide) rfl 11 (by decide) rfl (ht _ m_755) (fun _ h => h) d_Mo_move_39 ?_
        refine lv_bipush (v := 60) hx hb d_Mo_move_42 (by decide) ?_
        refine lv_iload_n hx hb d_Mo_move_44 rfl (lv_at hl 2 rfl) ?_
        refine lv_imul hx hb d_Mo_move_45 ?_
        refine lv_iload_n hx hb d_Mo_move_46 rfl (lv_at hl 3 rfl) ?_
        refine lv_iadd hx hb d_Mo_move_47 ?_
        refine lv_iconst (v := 1) hx hb d_Mo_move_48 (by decide) ?_
        refine lv_isub hx hb d_Mo_move_49 ?_
        obtain ⟨h11, hq⟩ := hq
        refine bw_iald C hW ea6 t7 h11 d_Mo_move_50 ?_
        refine bw_callV (As := [.int (wI w a6 ((((60 : Int32) * x1) + x2) - (1 : Int32)).toNatClampNeg)]) (rest := []) C hW ci_Mo_rear m_883 m_885 sel_Mo_rear d_Mo_move_51 rfl t1 (by decide) rfl rfl rfl hl.1 (by decide) ⟨Nat.le_of_ble_eq_true rfl, Nat.le_of_ble_eq_true rfl⟩ ⟨hc, hs⟩ (c_Mo_rear hl0 _ _ _ hq) (fun _ _ _ _ _ _ h => h.elim) (fun v12 w13 H locs hv hW => ?_)
        obtain ⟨i18, rfl, hq⟩ := hv
        refine W.eq (g2 := F0 m 54 ls [.int i18]) rfl ?_
        refine bw_aload_n hx hb d_Mo_move_54 rfl (lv_at hl 1 rfl) ?_
        obtain ⟨t19, hq⟩ := hq
        refine bw_getI hx hb ht in_Mo hown hK hW rfl t19 (by decide) rfl 2 (by decide) rfl (ht _ m_746) (fun _ h => h) d_Mo_move_55 ?_
        refine lv_isub hx hb d_Mo_move_58 ?_
        exact k_Mo_move_59 C hK2 _ _ _ _ _ _ hq _ _ _ _ _ hW (lv_sub hl [1, 2, 3, 0] rfl) hc hs
      · have hq := hq.2 c10
        refine bw_aload_n hx hb d_Mo_move_28 rfl (lv_at hl 1 rfl) ?_
        refine bw_getR hx hb ht in_Mo hown hK hW rfl t1 (by decide) rfl 4 (by decide) rfl (ht _ m_748) (fun _ h => h) d_Mo_move_29 ?_
        refine lv_iload_n hx hb d_Mo_move_32 rfl (lv_at hl 2 rfl) ?_
        obtain ⟨a20, ea20, hq⟩ := hq
        obtain ⟨t21, hq⟩ := hq
        obtain ⟨h22, hq⟩ := hq
        refine bw_iald C hW ea20 t21 h22 d_Mo_move_33 ?_
        refine lv_goto (tgt := 59) hx hb d_Mo_move_34 (by decide) ?_
        exact k_Mo_move_59 C hK2 _ _ _ _ _ _ hq _ _ _ _ _ hW (lv_sub hl [1, 2, 3, 0] rfl) hc hs
def wp_Mo_move (e0 mi : Nat) (x0 : Nat) (x1 : Int32) (w : Wd) (Q : Wd → Prop) : Prop :=
  ∃ n1 : Nat, wb_Mo_move_2 e0 mi Q n1 x0 x1 (0 : Int32) w
set_option maxHeartbeats 4000000 in
set_option maxRecDepth 100000 in
theorem k_Mo_move_0 {p : Program} {l : Launch} {e : Env} {s : State} {m : MethodId} {args : Array Value} {below : List Frame} {meth : Method} {c : Code} {D : va_G} {AC : Nat → ClassId} {e0 mi : Nat} {A : Nat → Prop} {mc ms : Nat} {Q : Wd → Prop} (C : Cx p l s m args meth c D AC e0 mi A n_Mo_move b_Mo_move 7 none) (x0 : Nat) (x1 : Int32) (w : Wd) (hq : wp_Mo_move e0 mi x0 x1 w Q) : ∀ (H : Heap) (locs : List Loc) (cells slots : Nat) (ls : Array Slot), HW D cls8 FTc AC A s.heap H locs w → lv_has ls 7 [(0, va_rf (some x0)), (1, .int x1)] → cells ≤ mc → slots ≤ ms → W p l e { frames := 1, cells := mc, slots := ms, locals := 21 } s m args below meth c H locs cells slots (vx_MQ below (QQ D AC A (fun v w9 => v = none ∧ Q w9)) (XX D AC A (fun _ _ => False)) args s mc ms A) (F0 m 0 ls []) := by
  obtain ⟨hl0, hx, hb, hr, ht, hown, hlocks, hnm, hml, hex, hK, hA, hZ, hV⟩ := id C
  intro H locs cells slots ls hW hl hc hs
  unfold wp_Mo_move at hq
  refine lv_iconst (v := 0) hx hb d_Mo_move_0 (by decide) ?_
  refine lv_istore_n (i := 2) (lv' := [(2, .int (0 : Int32)), (0, va_rf (some x0)), (1, .int x1)]) hx hb d_Mo_move_1 rfl hl (by decide) (by simp [bw_cat, cat_i, cat_j]) (fun ls hl => ?_)
  obtain ⟨n1, hq⟩ := hq
  exact k_Mo_move_2 C  n1 _ _ _ _ hq _ _ _ _ _ hW (lv_sub hl [1, 2, 0] rfl) hc hs
theorem ci_Mo_move : CI n_Mo_move b_Mo_move 7 none 1 := ⟨m_935, m_5, by decide, by decide, by decide +kernel⟩
theorem sel_Mo_move : Cond.selects "BeltRowsModel" n_Mo_move n_Mo_move ∈ TBL := List.mem_filter.mpr ⟨List.mem_append_left _ (List.mem_map.mpr ⟨(n_Mo_move, 32), by decide +kernel, rfl⟩), rfl⟩
theorem c_Mo_move {l : Launch} {D : va_G} {AC : Nat → ClassId} {e0 mi : Nat} {Q : Wd → Prop} (hl0 : l.stackTraces = false) (x0 : Nat) (x1 : Int32) (w : Wd) (hq : wp_Mo_move e0 mi x0 x1 w Q) : Ct l D AC e0 mi n_Mo_move (wy n_Mo_move b_Mo_move 7 none) 1 21 [va_rf (some x0), .int x1] w 0 0 (fun v w9 => v = none ∧ Q w9) (fun _ _ => False) :=
  Ct.of hl0 (by decide) (by simp [lg_sl, bw_cat, cat_i, cat_j]) (fun p e s m args below meth c A ls C hW hl => k_Mo_move_0 C x0 x1 w hq s.heap [] 0 0 ls hW (by simpa [lv_args, bw_cat, cat_i, cat_j] using hl) (Nat.le_refl _) (Nat.le_refl _))
def wb_Mo_step_83 (e0 mi : Nat) (K35 : Nat → Int32 → Int32 → Int32 → Wd → Prop) (K62 : Nat → Int32 → Int32 → Int32 → Int32 → Wd → Prop) (Q : Int32 → Wd → Prop) (x0 : Nat) (x1 : Int32) (x2 : Int32) (x3 : Int32) (x4 : Int32) (w : Wd) : Prop :=
  ∀ i1 : Int32, i1 = x4 + (-1) → (K62 x0 x1 x2 x3 i1 w)
set_option maxHeartbeats 4000000 in
set_option maxRecDepth 100000 in
theorem k_Mo_step_83 {p : Program} {l : Launch} {e : Env} {s : State} {m : MethodId} {args : Array Value} {below : List Frame} {meth : Method} {c : Code} {D : va_G} {AC : Nat → ClassId} {e0 mi : Nat} {A : Nat → Prop} {mc ms : Nat} {K35 : Nat → Int32 → Int32 → Int32 → Wd → Prop} {K62 : Nat → Int32 → Int32 → Int32 → Int32 → Wd → Prop} {Q : Int32 → Wd → Prop} (C : Cx p l s m args meth c D AC e0 mi A n_Mo_step b_Mo_step 5 (some .int)) (hK35 : ∀ (x0 : Nat) (x1 : Int32) (x2 : Int32) (x3 : Int32) (w : Wd), K35 x0 x1 x2 x3 w → ∀ (H : Heap) (locs : List Loc) (cells slots : Nat) (ls : Array Slot), HW D cls8 FTc AC A s.heap H locs w → lv_has ls 5 [(0, va_rf (some x0)), (1, .int x1), (2, .int x2), (3, .int x3)] → cells ≤ mc → slots ≤ ms → W p l e { frames := 3, cells := mc, slots := ms, locals := 72 } s m args below meth c H locs cells slots (vx_MQ below (QQ D AC A (fun v w9 => ∃ r9 : Int32, v = some (.int r9) ∧ Q r9 w9)) (XX D AC A (fun _ _ => False)) args s mc ms A) (F0 m 35 ls [])) (hK62 : ∀ (x0 : Nat) (x1 : Int32) (x2 : Int32) (x3 : Int32) (x4 : Int32) (w : Wd), K62 x0 x1 x2 x3 x4 w → ∀ (H : Heap) (locs : List Loc) (cells slots : Nat) (ls : Array Slot), HW D cls8 FTc AC A s.heap H locs w → lv_has ls 5 [(0, va_rf (some x0)), (1, .int x1), (2, .int x2), (3, .int x3), (4, .int x4)] → cells ≤ mc → slots ≤ ms → W p l e { frames := 3, cells := mc, slots := ms, locals := 72 } s m args below meth c H locs cells slots (vx_MQ below (QQ D AC A (fun v w9 => ∃ r9 : Int32, v = some (.int r9) ∧ Q r9 w9)) (XX D AC A (fun _ _ => False)) args s mc ms A) (F0 m 62 ls [])) (x0 : Nat) (x1 : Int32) (x2 : Int32) (x3 : Int32) (x4 : Int32) (w : Wd) (hq : wb_Mo_step_83 e0 mi K35 K62 Q x0 x1 x2 x3 x4 w) : ∀ (H : Heap) (locs : List Loc) (cells slots : Nat) (ls : Array Slot), HW D cls8 FTc AC A s.heap H locs w → lv_has ls 5 [(0, va_rf (some x0)), (1, .int x1), (2, .int x2), (3, .int x3), (4, .int x4)] → cells ≤ mc → slots ≤ ms → W p l e { frames := 3, cells := mc, slots := ms, locals := 72 } s m args below meth c H locs cells slots (vx_MQ below (QQ D AC A (fun v w9 => ∃ r9 : Int32, v = some (.int r9) ∧ Q r9 w9)) (XX D AC A (fun _ _ => False)) args s mc ms A) (F0 m 83 ls []) := by
  obtain ⟨hl0, hx, hb, hr, ht, hown, hlocks, hnm, hml, hex, hK, hA, hZ, hV⟩ := id C
  intro H locs cells slots ls hW hl hc hs
  unfold wb_Mo_step_83 at hq
  obtain ⟨i1, ei1⟩ : ∃ y : Int32, y = x4 + (-1) := ⟨_, rfl⟩
  have hq := hq i1 ei1
  refine lv_iinc (v := i1) (lv' := [(4, .int i1), (0, va_rf (some x0)), (1, .int x1), (2, .int x2), (3, .int x3)]) hx hb d_Mo_step_83 hl (k := 4) rfl (by rw [ei1]; rfl) (by decide) (by simp [bw_cat, cat_i, cat_j]) (fun ls hl => ?_)
  refine lv_goto (tgt := 62) hx hb d_Mo_step_86 (by decide) ?_
  exact hK62 _ _ _ _ _ _ hq _ _ _ _ _ hW (lv_sub hl [1, 2, 3, 4, 0] rfl) hc hs
def wb_Mo_step_117 (e0 mi : Nat) (K35 : Nat → Int32 → Int32 → Int32 → Wd → Prop) (K92 : Nat → Int32 → Int32 → Int32 → Int32 → Wd → Prop) (Q : Int32 → Wd → Prop) (x0 : Nat) (x1 : Int32) (x2 : Int32) (x3 : Int32) (x4 : Int32) (w : Wd) : Prop :=
  ∀ i1 : Int32, i1 = x4 + 1 → (K92 x0 x1 x2 x3 i1 w)
set_option maxHeartbeats 4000000 in
set_option maxRecDepth 100000 in
theorem k_Mo_step_117 {p : Program} {l : Launch} {e : Env} {s : State} {m : MethodId} {args : Array Value} {below : List Frame} {meth : Method} {c : Code} {D : va_G} {AC : Nat → ClassId} {e0 mi : Nat} {A : Nat → Prop} {mc ms : Nat} {K35 : Nat → Int32 → Int32 → Int32 → Wd → Prop} {K92 : Nat → Int32 → Int32 → Int32 → Int32 → Wd → Prop} {Q : Int32 → Wd → Prop} (C : Cx p l s m args meth c D AC e0 mi A n_Mo_step b_Mo_step 5 (some .int)) (hK35 : ∀ (x0 : Nat) (x1 : Int32) (x2 : Int32) (x3 : Int32) (w : Wd), K35 x0 x1 x2 x3 w → ∀ (H : Heap) (locs : List Loc) (cells slots : Nat) (ls : Array Slot), HW D cls8 FTc AC A s.heap H locs w → lv_has ls 5 [(0, va_rf (some x0)), (1, .int x1), (2, .int x2), (3, .int x3)] → cells ≤ mc → slots ≤ ms → W p l e { frames := 3, cells := mc, slots := ms, locals := 72 } s m args below meth c H locs cells slots (vx_MQ below (QQ D AC A (fun v w9 => ∃ r9 : Int32, v = some (.int r9) ∧ Q r9 w9)) (XX D AC A (fun _ _ => False)) args s mc ms A) (F0 m 35 ls [])) (hK92 : ∀ (x0 : Nat) (x1 : Int32) (x2 : Int32) (x3 : Int32) (x4 : Int32) (w : Wd), K92 x0 x1 x2 x3 x4 w → ∀ (H : Heap) (locs : List Loc) (cells slots : Nat) (ls : Array Slot), HW D cls8 FTc AC A s.heap H locs w → lv_has ls 5 [(0, va_rf (some x0)), (1, .int x1), (2, .int x2), (3, .int x3), (4, .int x4)] → cells ≤ mc → slots ≤ ms → W p l e { frames := 3, cells := mc, slots := ms, locals := 72 } s m args below meth c H locs cells slots (vx_MQ below (QQ D AC A (fun v w9 => ∃ r9 : Int32, v = some (.int r9) ∧ Q r9 w9)) (XX D AC A (fun _ _ => False)) args s mc ms A) (F0 m 92 ls [])) (x0 : Nat) (x1 : Int32) (x2 : Int32) (x3 : Int32) (x4 : Int32) (w : Wd) (hq : wb_Mo_step_117 e0 mi K35 K92 Q x0 x1 x2 x3 x4 w) : ∀ (H : Heap) (locs : List Loc) (cells slots : Nat) (ls : Array Slot), HW D cls8 FTc AC A s.heap H locs w → lv_has ls 5 [(0, va_rf (some x0)), (1, .int x1), (2, .int x2), (3, .int x3), (4, .int x4)] → cells ≤ mc → slots ≤ ms → W p l e { frames := 3, cells := mc, slots := ms, locals := 72 } s m args below meth c H locs cells slots (vx_MQ below (QQ D AC A (fun v w9 => ∃ r9 : Int32, v = some (.int r9) ∧ Q r9 w9)) (XX D AC A (fun _ _ => False)) args s mc ms A) (F0 m 117 ls []) := by
  obtain ⟨hl0, hx, hb, hr, ht, hown, hlocks, hnm, hml, hex, hK, hA, hZ, hV⟩ := id C
  intro H locs cells slots ls hW hl hc hs
  unfold wb_Mo_step_117 at hq
  obtain ⟨i1, ei1⟩ : ∃ y : Int32, y = x4 + 1 := ⟨_, rfl⟩
  have hq := hq i1 ei1
  refine lv_iinc (v := i1) (lv' := [(4, .int i1), (0, va_rf (some x0)), (1, .int x1), (2, .int x2), (3, .int x3)]) hx hb d_Mo_step_117 hl (k := 4) rfl (by rw [ei1]; rfl) (by decide) (by simp [bw_cat, cat_i, cat_j]) (fun ls hl => ?_)
  refine lv_goto (tgt := 92) hx hb d_Mo_step_120 (by decide) ?_
  exact hK92 _ _ _ _ _ _ hq _ _ _ _ _ hW (lv_sub hl [1, 2, 3, 4, 0] rfl) hc hs
def wb_Mo_step_92 (e0 mi : Nat) (K35 : Nat → Int32 → Int32 → Int32 → Wd → Prop) (Q : Int32 → Wd → Prop) : Nat → Nat → Int32 → Int32 → Int32 → Int32 → Wd → Prop
  | 0, _, _, _, _, _, _ => False
  | n + 1, x0, x1, x2, x3, x4, w => bw_is w x0 6 ∧ (((wI w x0 3) ≤ x4 → (∀ i3 : Int32, i3 = x3 + 1 → (K35 x0 x1 x2 i3 w))) ∧ (¬ (wI w x0 3) ≤ x4 → (∃ a4 : Nat, (wR w x0 6) = some a4 ∧ (bw_is w a4 103 ∧ (vp_in x4 (wN w a4) ∧ (((wI w a4 x4.toNatClampNeg) = 0 → (wb_Mo_step_117 e0 mi K35 (wb_Mo_step_92 e0 mi K35 Q n) Q x0 x1 x2 x3 x4 w)) ∧ (¬ (wI w a4 x4.toNatClampNeg) = 0 → (wp_Mo_move e0 mi x0 x4 w (fun w9 => wb_Mo_step_117 e0 mi K35 (wb_Mo_step_92 e0 mi K35 Q n) Q x0 x1 x2 x3 x4 w9)))))))))
set_option maxHeartbeats 4000000 in
set_option maxRecDepth 100000 in
theorem k_Mo_step_92 {p : Program} {l : Launch} {e : Env} {s : State} {m : MethodId} {args : Array Value} {below : List Frame} {meth : Method} {c : Code} {D : va_G} {AC : Nat → ClassId} {e0 mi : Nat} {A : Nat → Prop} {mc ms : Nat} {K35 : Nat → Int32 → Int32 → Int32 → Wd → Prop} {Q : Int32 → Wd → Prop} (C : Cx p l s m args meth c D AC e0 mi A n_Mo_step b_Mo_step 5 (some .int)) (hK35 : ∀ (x0 : Nat) (x1 : Int32) (x2 : Int32) (x3 : Int32) (w : Wd), K35 x0 x1 x2 x3 w → ∀ (H : Heap) (locs : List Loc) (cells slots : Nat) (ls : Array Slot), HW D cls8 FTc AC A s.heap H locs w → lv_has ls 5 [(0, va_rf (some x0)), (1, .int x1), (2, .int x2), (3, .int x3)] → cells ≤ mc → slots ≤ ms → W p l e { frames := 3, cells := mc, slots := ms, locals := 72 } s m args below meth c H locs cells slots (vx_MQ below (QQ D AC A (fun v w9 => ∃ r9 : Int32, v = some (.int r9) ∧ Q r9 w9)) (XX D AC A (fun _ _ => False)) args s mc ms A) (F0 m 35 ls [])) : ∀ (n : Nat) (x0 : Nat) (x1 : Int32) (x2 : Int32) (x3 : Int32) (x4 : Int32) (w : Wd), wb_Mo_step_92 e0 mi K35 Q n x0 x1 x2 x3 x4 w → ∀ (H : Heap) (locs : List Loc) (cells slots : Nat) (ls : Array Slot), HW D cls8 FTc AC A s.heap H locs w → lv_has ls 5 [(0, va_rf (some x0)), (1, .int x1), (2, .int x2), (3, .int x3), (4, .int x4)] → cells ≤ mc → slots ≤ ms → W p l e { frames := 3, cells := mc, slots := ms, locals := 72 } s m args below meth c H locs cells slots (vx_MQ below (QQ D AC A (fun v w9 => ∃ r9 : Int32, v = some (.int r9) ∧ Q r9 w9)) (XX D AC A (fun _ _ => False)) args s mc ms A) (F0 m 92 ls []) := by
  obtain ⟨hl0, hx, hb, hr, ht, hown, hlocks, hnm, hml, hex, hK, hA, hZ, hV⟩ := id C
  intro n
  induction n with
  | zero =>
    intro x0 x1 x2 x3 x4 w hq
    exact hq.elim
  | succ n ih =>
    intro x0 x1 x2 x3 x4 w hq H locs cells slots ls hW hl hc hs
    have hK92 := ih
    unfold wb_Mo_step_92 at hq
    refine lv_iload hx hb d_Mo_step_92 (lv_at hl 4 rfl) ?_
    refine bw_aload_n hx hb d_Mo_step_94 rfl (lv_at hl 0 rfl) ?_
    obtain ⟨t1, hq⟩ := hq
    refine bw_getI hx hb ht in_Mo hown hK hW rfl t1 (by decide) rfl 3 (by decide) rfl (ht _ m_747) (fun _ h => h) d_Mo_step_95 ?_
    refine lv_icmp_ge (tgt := 123) hx hb d_Mo_step_98 (by decide) (fun c2 => ?_) (fun c2 => ?_)
    · have hq := hq.1 c2
      obtain ⟨i3, ei3⟩ : ∃ y : Int32, y = x3 + 1 := ⟨_, rfl⟩
      have hq := hq i3 ei3
      refine lv_iinc (v := i3) (lv' := [(3, .int i3), (0, va_rf (some x0)), (1, .int x1), (2, .int x2), (4, .int x4)]) hx hb d_Mo_step_123 hl (k := 3) rfl (by rw [ei3]; rfl) (by decide) (by simp [bw_cat, cat_i, cat_j]) (fun ls hl => ?_)
      refine lv_goto (tgt := 35) hx hb d_Mo_step_126 (by decide) ?_
      exact hK35 _ _ _ _ _ hq _ _ _ _ _ hW (lv_sub hl [1, 2, 3, 0] rfl) hc hs
    · have hq := hq.2 c2
      refine bw_aload_n hx hb d_Mo_step_101 rfl (lv_at hl 0 rfl) ?_
      refine bw_getR hx hb ht in_Mo hown hK hW rfl t1 (by decide) rfl 6 (by decide) rfl (ht _ m_750) (fun _ h => h) d_Mo_step_102 ?_
      refine lv_iload hx hb d_Mo_step_105 (lv_at hl 4 rfl) ?_
      obtain ⟨a4, ea4, hq⟩ := hq
      obtain ⟨t5, hq⟩ := hq
      obtain ⟨h6, hq⟩ := hq
      refine bw_zald C hW ea4 t5 h6 d_Mo_step_107 ?_
      refine lv_if_eq (tgt := 117) hx hb d_Mo_step_108 (by decide) (fun c7 => ?_) (fun c7 => ?_)
      · have hq := hq.1 c7
        exact k_Mo_step_117 C hK35 hK92 _ _ _ _ _ _ hq _ _ _ _ _ hW (lv_sub hl [0, 1, 2, 3, 4] rfl) hc hs
      · have hq := hq.2 c7
        refine bw_aload_n hx hb d_Mo_step_111 rfl (lv_at hl 0 rfl) ?_
        refine lv_iload hx hb d_Mo_step_112 (lv_at hl 4 rfl) ?_
        refine bw_callV (As := [.int x4]) (rest := []) C hW ci_Mo_move m_932 m_934 sel_Mo_move d_Mo_step_114 rfl t1 (by decide) rfl rfl rfl hl.1 (by decide) ⟨Nat.le_of_ble_eq_true rfl, Nat.le_of_ble_eq_true rfl⟩ ⟨hc, hs⟩ (c_Mo_move hl0 _ _ _ hq) (fun _ _ _ _ _ _ h => h.elim) (fun v8 w9 H locs hv hW => ?_)
        obtain ⟨rfl, hq⟩ := hv
        refine W.eq (g2 := F0 m 117 ls []) rfl ?_
        exact k_Mo_step_117 C hK35 hK92 _ _ _ _ _ _ hq _ _ _ _ _ hW (lv_sub hl [0, 1, 2, 3, 4] rfl) hc hs
def wb_Mo_step_62 (e0 mi : Nat) (K35 : Nat → Int32 → Int32 → Int32 → Wd → Prop) (Q : Int32 → Wd → Prop) : Nat → Nat → Int32 → Int32 → Int32 → Int32 → Wd → Prop
  | 0, _, _, _, _, _, _ => False
  | n + 1, x0, x1, x2, x3, x4, w => (x4 < 0 → (∃ n2 : Nat, wb_Mo_step_92 e0 mi K35 Q n2 x0 x1 x2 x3 (0 : Int32) w)) ∧ (¬ x4 < 0 → (bw_is w x0 6 ∧ (∃ a4 : Nat, (wR w x0 6) = some a4 ∧ (bw_is w a4 103 ∧ (vp_in x4 (wN w a4) ∧ (((wI w a4 x4.toNatClampNeg) = 0 → (wb_Mo_step_83 e0 mi K35 (wb_Mo_step_62 e0 mi K35 Q n) Q x0 x1 x2 x3 x4 w)) ∧ (¬ (wI w a4 x4.toNatClampNeg) = 0 → (wp_Mo_exchange e0 mi x0 x4 w (fun w9 => wb_Mo_step_83 e0 mi K35 (wb_Mo_step_62 e0 mi K35 Q n) Q x0 x1 x2 x3 x4 w9)))))))))
set_option maxHeartbeats 4000000 in
set_option maxRecDepth 100000 in
theorem k_Mo_step_62 {p : Program} {l : Launch} {e : Env} {s : State} {m : MethodId} {args : Array Value} {below : List Frame} {meth : Method} {c : Code} {D : va_G} {AC : Nat → ClassId} {e0 mi : Nat} {A : Nat → Prop} {mc ms : Nat} {K35 : Nat → Int32 → Int32 → Int32 → Wd → Prop} {Q : Int32 → Wd → Prop} (C : Cx p l s m args meth c D AC e0 mi A n_Mo_step b_Mo_step 5 (some .int)) (hK35 : ∀ (x0 : Nat) (x1 : Int32) (x2 : Int32) (x3 : Int32) (w : Wd), K35 x0 x1 x2 x3 w → ∀ (H : Heap) (locs : List Loc) (cells slots : Nat) (ls : Array Slot), HW D cls8 FTc AC A s.heap H locs w → lv_has ls 5 [(0, va_rf (some x0)), (1, .int x1), (2, .int x2), (3, .int x3)] → cells ≤ mc → slots ≤ ms → W p l e { frames := 3, cells := mc, slots := ms, locals := 72 } s m args below meth c H locs cells slots (vx_MQ below (QQ D AC A (fun v w9 => ∃ r9 : Int32, v = some (.int r9) ∧ Q r9 w9)) (XX D AC A (fun _ _ => False)) args s mc ms A) (F0 m 35 ls [])) : ∀ (n : Nat) (x0 : Nat) (x1 : Int32) (x2 : Int32) (x3 : Int32) (x4 : Int32) (w : Wd), wb_Mo_step_62 e0 mi K35 Q n x0 x1 x2 x3 x4 w → ∀ (H : Heap) (locs : List Loc) (cells slots : Nat) (ls : Array Slot), HW D cls8 FTc AC A s.heap H locs w → lv_has ls 5 [(0, va_rf (some x0)), (1, .int x1), (2, .int x2), (3, .int x3), (4, .int x4)] → cells ≤ mc → slots ≤ ms → W p l e { frames := 3, cells := mc, slots := ms, locals := 72 } s m args below meth c H locs cells slots (vx_MQ below (QQ D AC A (fun v w9 => ∃ r9 : Int32, v = some (.int r9) ∧ Q r9 w9)) (XX D AC A (fun _ _ => False)) args s mc ms A) (F0 m 62 ls []) := by
  obtain ⟨hl0, hx, hb, hr, ht, hown, hlocks, hnm, hml, hex, hK, hA, hZ, hV⟩ := id C
  intro n
  induction n with
  | zero =>
    intro x0 x1 x2 x3 x4 w hq
    exact hq.elim
  | succ n ih =>
    intro x0 x1 x2 x3 x4 w hq H locs cells slots ls hW hl hc hs
    have hK62 := ih
    unfold wb_Mo_step_62 at hq
    refine lv_iload hx hb d_Mo_step_62 (lv_at hl 4 rfl) ?_
    refine lv_if_lt (tgt := 89) hx hb d_Mo_step_64 (by decide) (fun c1 => ?_) (fun c1 => ?_)
    · have hq := hq.1 c1
      refine lv_iconst (v := 0) hx hb d_Mo_step_89 (by decide) ?_
      refine lv_istore (lv' := [(4, .int (0 : Int32)), (0, va_rf (some x0)), (1, .int x1), (2, .int x2), (3, .int x3)]) hx hb d_Mo_step_90 hl (by decide) (by simp [bw_cat, cat_i, cat_j]) (fun ls hl => ?_)
      obtain ⟨n2, hq⟩ := hq
      exact k_Mo_step_92 C hK35 n2 _ _ _ _ _ _ hq _ _ _ _ _ hW (lv_sub hl [1, 2, 3, 4, 0] rfl) hc hs
    · have hq := hq.2 c1
      refine bw_aload_n hx hb d_Mo_step_67 rfl (lv_at hl 0 rfl) ?_
      obtain ⟨t3, hq⟩ := hq
      refine bw_getR hx hb ht in_Mo hown hK hW rfl t3 (by decide) rfl 6 (by decide) rfl (ht _ m_750) (fun _ h => h) d_Mo_step_68 ?_
      refine lv_iload hx hb d_Mo_step_71 (lv_at hl 4 rfl) ?_
      obtain ⟨a4, ea4, hq⟩ := hq
      obtain ⟨t5, hq⟩ := hq
      obtain ⟨h6, hq⟩ := hq
      refine bw_zald C hW ea4 t5 h6 d_Mo_step_73 ?_
      refine lv_if_eq (tgt := 83) hx hb d_Mo_step_74 (by decide) (fun c7 => ?_) (fun c7 => ?_)
      · have hq := hq.1 c7
        exact k_Mo_step_83 C hK35 hK62 _ _ _ _ _ _ hq _ _ _ _ _ hW (lv_sub hl [0, 1, 2, 3, 4] rfl) hc hs
      · have hq := hq.2 c7
        refine bw_aload_n hx hb d_Mo_step_77 rfl (lv_at hl 0 rfl) ?_
        refine lv_iload hx hb d_Mo_step_78 (lv_at hl 4 rfl) ?_
        refine bw_callV (As := [.int x4]) (rest := []) C hW ci_Mo_exchange m_912 m_914 sel_Mo_exchange d_Mo_step_80 rfl t3 (by decide) rfl rfl rfl hl.1 (by decide) ⟨Nat.le_of_ble_eq_true rfl, Nat.le_of_ble_eq_true rfl⟩ ⟨hc, hs⟩ (c_Mo_exchange hl0 _ _ _ hq) (fun _ _ _ _ _ _ h => h.elim) (fun v8 w9 H locs hv hW => ?_)
        obtain ⟨rfl, hq⟩ := hv
        refine W.eq (g2 := F0 m 83 ls []) rfl ?_
        exact k_Mo_step_83 C hK35 hK62 _ _ _ _ _ _ hq _ _ _ _ _ hW (lv_sub hl [0, 1, 2, 3, 4] rfl) hc hs
def wb_Mo_step_35 (e0 mi : Nat) (Q : Int32 → Wd → Prop) : Nat → Nat → Int32 → Int32 → Int32 → Wd → Prop
  | 0, _, _, _, _, _ => False
  | n + 1, x0, x1, x2, x3, w => (x1 ≤ x3 → (bw_is w x0 6 ∧ (Q ((wI w x0 27) - x2) w))) ∧ (¬ x1 ≤ x3 → (bw_is w x0 6 ∧ (wp_Mo_readDue e0 mi x0 (sI w x0 1 ((wI w x0 1) + (1 : Int32))) (fun w5 => bw_is w5 x0 6 ∧ (∀ i12 : Int32, i12 = (wI w5 x0 3) - (1 : Int32) → (∃ n13 : Nat, wb_Mo_step_62 e0 mi (wb_Mo_step_35 e0 mi Q n) Q n13 x0 x1 x2 x3 i12 w5))))))
set_option maxHeartbeats 4000000 in
set_option maxRecDepth 100000 in
theorem k_Mo_step_35 {p : Program} {l : Launch} {e : Env} {s : State} {m : MethodId} {args : Array Value} {below : List Frame} {meth : Method} {c : Code} {D : va_G} {AC : Nat → ClassId} {e0 mi : Nat} {A : Nat → Prop} {mc ms : Nat} {Q : Int32 → Wd → Prop} (C : Cx p l s m args meth c D AC e0 mi A n_Mo_step b_Mo_step 5 (some .int)) : ∀ (n : Nat) (x0 : Nat) (x1 : Int32) (x2 : Int32) (x3 : Int32) (w : Wd), wb_Mo_step_35 e0 mi Q n x0 x1 x2 x3 w → ∀ (H : Heap) (locs : List Loc) (cells slots : Nat) (ls : Array Slot), HW D cls8 FTc AC A s.heap H locs w → lv_has ls 5 [(0, va_rf (some x0)), (1, .int x1), (2, .int x2), (3, .int x3)] → cells ≤ mc → slots ≤ ms → W p l e { frames := 3, cells := mc, slots := ms, locals := 72 } s m args below meth c H locs cells slots (vx_MQ below (QQ D AC A (fun v w9 => ∃ r9 : Int32, v = some (.int r9) ∧ Q r9 w9)) (XX D AC A (fun _ _ => False)) args s mc ms A) (F0 m 35 ls []) := by
  obtain ⟨hl0, hx, hb, hr, ht, hown, hlocks, hnm, hml, hex, hK, hA, hZ, hV⟩ := id C
  intro n
  induction n with
  | zero =>
    intro x0 x1 x2 x3 w hq
    exact hq.elim
  | succ n ih =>
    intro x0 x1 x2 x3 w hq H locs cells slots ls hW hl hc hs
    have hK35 := ih
    unfold wb_Mo_step_35 at hq
    refine lv_iload_n hx hb d_Mo_step_35 rfl (lv_at hl 3 rfl) ?_
    refine lv_iload_n hx hb d_Mo_step_36 rfl (lv_at hl 1 rfl) ?_
    refine lv_icmp_ge (tgt := 129) hx hb d_Mo_step_37 (by decide) (fun c1 => ?_) (fun c1 => ?_)
    · have hq := hq.1 c1
      refine bw_aload_n hx hb d_Mo_step_129 rfl (lv_at hl 0 rfl) ?_
      obtain ⟨t2, hq⟩ := hq
      refine bw_getI hx hb ht in_Mo hown hK hW rfl t2 (by decide) rfl 27 (by decide) rfl (ht _ m_771) (fun _ h => h) d_Mo_step_130 ?_
      refine lv_iload_n hx hb d_Mo_step_133 rfl (lv_at hl 2 rfl) ?_
      refine lv_isub hx hb d_Mo_step_134 ?_
      exact bw_iret C hW ⟨_, rfl, hq⟩ d_Mo_step_135 hc hs
    · have hq := hq.2 c1
      refine bw_aload_n hx hb d_Mo_step_40 rfl (lv_at hl 0 rfl) ?_
      refine lv_dup hx hb d_Mo_step_41 (bw_cat _) ?_
      obtain ⟨t3, hq⟩ := hq
      refine bw_getI hx hb ht in_Mo hown hK hW rfl t3 (by decide) rfl 1 (by decide) rfl (ht _ m_745) (fun _ h => h) d_Mo_step_42 ?_
      refine lv_iconst (v := 1) hx hb d_Mo_step_45 (by decide) ?_
      refine lv_iadd hx hb d_Mo_step_46 ?_
      refine bw_putI hx hb ht in_Mo y_Mo yk_Mo nm_Mo hown hK hW rfl t3 (by decide) rfl 1 (by decide) rfl (ht _ m_745) (fun _ h => h) (Or.inl rfl) rfl rfl d_Mo_step_47 (fun H locs hW => ?_)
      refine bw_aload_n hx hb d_Mo_step_50 rfl (lv_at hl 0 rfl) ?_
      refine bw_callV (As := []) (rest := []) C hW ci_Mo_readDue m_903 m_905 sel_Mo_readDue d_Mo_step_51 rfl t3 (by decide) rfl rfl rfl hl.1 (by decide) ⟨Nat.le_of_ble_eq_true rfl, Nat.le_of_ble_eq_true rfl⟩ ⟨hc, hs⟩ (c_Mo_readDue hl0 _ _ hq) (fun _ _ _ _ _ _ h => h.elim) (fun v4 w5 H locs hv hW => ?_)
      obtain ⟨rfl, hq⟩ := hv
      refine W.eq (g2 := F0 m 54 ls []) rfl ?_
      refine bw_aload_n hx hb d_Mo_step_54 rfl (lv_at hl 0 rfl) ?_
      obtain ⟨t11, hq⟩ := hq
      refine bw_getI hx hb ht in_Mo hown hK hW rfl t11 (by decide) rfl 3 (by decide) rfl (ht _ m_747) (fun _ h => h) d_Mo_step_55 ?_
      refine lv_iconst (v := 1) hx hb d_Mo_step_58 (by decide) ?_
      refine lv_isub hx hb d_Mo_step_59 ?_
      refine lv_topi (fun i12 ei12 => ?_)
      have hq := hq i12 ei12
      refine lv_istore (lv' := [(4, .int i12), (0, va_rf (some x0)), (1, .int x1), (2, .int x2), (3, .int x3)]) hx hb d_Mo_step_60 hl (by decide) (by simp [bw_cat, cat_i, cat_j]) (fun ls hl => ?_)
      obtain ⟨n13, hq⟩ := hq
      exact k_Mo_step_62 C hK35 n13 _ _ _ _ _ _ hq _ _ _ _ _ hW (lv_sub hl [1, 2, 3, 4, 0] rfl) hc hs
def wb_Mo_step_16 (e0 mi : Nat) (Q : Int32 → Wd → Prop) (x0 : Nat) (x1 : Int32) (z0 : Option Nat) (z1 : Int32) (w : Wd) : Prop :=
  ∃ a1 : Nat, z0 = some a1 ∧ (bw_is w a1 6 ∧ (bw_is (sI w a1 0 z1) x0 6 ∧ (((wI (sI w a1 0 z1) x0 0) ≤ 0 → (∀ i5 : Int32, i5 = wI (sI w a1 0 z1) x0 27 → (∃ n6 : Nat, wb_Mo_step_35 e0 mi Q n6 x0 x1 i5 (0 : Int32) (sI w a1 0 z1)))) ∧ (¬ (wI (sI w a1 0 z1) x0 0) ≤ 0 → (Q (0 : Int32) (sI w a1 0 z1))))))
set_option maxHeartbeats 4000000 in
set_option maxRecDepth 100000 in
theorem k_Mo_step_16 {p : Program} {l : Launch} {e : Env} {s : State} {m : MethodId} {args : Array Value} {below : List Frame} {meth : Method} {c : Code} {D : va_G} {AC : Nat → ClassId} {e0 mi : Nat} {A : Nat → Prop} {mc ms : Nat} {Q : Int32 → Wd → Prop} (C : Cx p l s m args meth c D AC e0 mi A n_Mo_step b_Mo_step 5 (some .int)) (x0 : Nat) (x1 : Int32) (z0 : Option Nat) (z1 : Int32) (w : Wd) (hq : wb_Mo_step_16 e0 mi Q x0 x1 z0 z1 w) : ∀ (H : Heap) (locs : List Loc) (cells slots : Nat) (ls : Array Slot), HW D cls8 FTc AC A s.heap H locs w → lv_has ls 5 [(0, va_rf (some x0)), (1, .int x1)] → cells ≤ mc → slots ≤ ms → W p l e { frames := 3, cells := mc, slots := ms, locals := 72 } s m args below meth c H locs cells slots (vx_MQ below (QQ D AC A (fun v w9 => ∃ r9 : Int32, v = some (.int r9) ∧ Q r9 w9)) (XX D AC A (fun _ _ => False)) args s mc ms A) (F0 m 16 ls [.int z1, va_rf z0]) := by
  obtain ⟨hl0, hx, hb, hr, ht, hown, hlocks, hnm, hml, hex, hK, hA, hZ, hV⟩ := id C
  intro H locs cells slots ls hW hl hc hs
  unfold wb_Mo_step_16 at hq
  obtain ⟨a1, ea1, hq⟩ := hq
  obtain ⟨t2, hq⟩ := hq
  refine bw_putI hx hb ht in_Mo y_Mo yk_Mo nm_Mo hown hK hW ea1 t2 (by decide) rfl 0 (by decide) rfl (ht _ m_744) (fun _ h => h) (Or.inl rfl) rfl rfl d_Mo_step_16 (fun H locs hW => ?_)
  refine bw_aload_n hx hb d_Mo_step_19 rfl (lv_at hl 0 rfl) ?_
  obtain ⟨t3, hq⟩ := hq
  refine bw_getI hx hb ht in_Mo hown hK hW rfl t3 (by decide) rfl 0 (by decide) rfl (ht _ m_744) (fun _ h => h) d_Mo_step_20 ?_
  refine lv_if_le (tgt := 28) hx hb d_Mo_step_23 (by decide) (fun c4 => ?_) (fun c4 => ?_)
  · have hq := hq.1 c4
    refine bw_aload_n hx hb d_Mo_step_28 rfl (lv_at hl 0 rfl) ?_
    refine bw_getI hx hb ht in_Mo hown hK hW rfl t3 (by decide) rfl 27 (by decide) rfl (ht _ m_771) (fun _ h => h) d_Mo_step_29 ?_
    refine lv_topi (fun i5 ei5 => ?_)
    have hq := hq i5 ei5
    refine lv_istore_n (i := 2) (lv' := [(2, .int i5), (0, va_rf (some x0)), (1, .int x1)]) hx hb d_Mo_step_32 rfl hl (by decide) (by simp [bw_cat, cat_i, cat_j]) (fun ls hl => ?_)
    refine lv_iconst (v := 0) hx hb d_Mo_step_33 (by decide) ?_
    refine lv_istore_n (i := 3) (lv' := [(3, .int (0 : Int32)), (2, .int i5), (0, va_rf (some x0)), (1, .int x1)]) hx hb d_Mo_step_34 rfl hl (by decide) (by simp [bw_cat, cat_i, cat_j]) (fun ls hl => ?_)
    obtain ⟨n6, hq⟩ := hq
    exact k_Mo_step_35 C  n6 _ _ _ _ _ hq _ _ _ _ _ hW (lv_sub hl [2, 3, 1, 0] rfl) hc hs
  · have hq := hq.2 c4
    refine lv_iconst (v := 0) hx hb d_Mo_step_26 (by decide) ?_
    exact bw_iret C hW ⟨_, rfl, hq⟩ d_Mo_step_27 hc hs
def wp_Mo_step (e0 mi : Nat) (x0 : Nat) (x1 : Int32) (w : Wd) (Q : Int32 → Wd → Prop) : Prop :=
  wp_Mo_in e0 mi x1 (0 : Int32) (100 : Int32) w (fun i7 w2 => (i7 = 0 → (wb_Mo_step_16 e0 mi Q x0 x1 (some x0) (1 : Int32) w2)) ∧ (¬ i7 = 0 → (wb_Mo_step_16 e0 mi Q x0 x1 (some x0) (0 : Int32) w2)))
set_option maxHeartbeats 4000000 in
set_option maxRecDepth 100000 in
theorem k_Mo_step_0 {p : Program} {l : Launch} {e : Env} {s : State} {m : MethodId} {args : Array Value} {below : List Frame} {meth : Method} {c : Code} {D : va_G} {AC : Nat → ClassId} {e0 mi : Nat} {A : Nat → Prop} {mc ms : Nat} {Q : Int32 → Wd → Prop} (C : Cx p l s m args meth c D AC e0 mi A n_Mo_step b_Mo_step 5 (some .int)) (x0 : Nat) (x1 : Int32) (w : Wd) (hq : wp_Mo_step e0 mi x0 x1 w Q) : ∀ (H : Heap) (locs : List Loc) (cells slots : Nat) (ls : Array Slot), HW D cls8 FTc AC A s.heap H locs w → lv_has ls 5 [(0, va_rf (some x0)), (1, .int x1)] → cells ≤ mc → slots ≤ ms → W p l e { frames := 3, cells := mc, slots := ms, locals := 72 } s m args below meth c H locs cells slots (vx_MQ below (QQ D AC A (fun v w9 => ∃ r9 : Int32, v = some (.int r9) ∧ Q r9 w9)) (XX D AC A (fun _ _ => False)) args s mc ms A) (F0 m 0 ls []) := by
  obtain ⟨hl0, hx, hb, hr, ht, hown, hlocks, hnm, hml, hex, hK, hA, hZ, hV⟩ := id C
  intro H locs cells slots ls hW hl hc hs
  unfold wp_Mo_step at hq
  refine bw_aload_n hx hb d_Mo_step_0 rfl (lv_at hl 0 rfl) ?_
  refine lv_iload_n hx hb d_Mo_step_1 rfl (lv_at hl 1 rfl) ?_
  refine lv_iconst (v := 0) hx hb d_Mo_step_2 (by decide) ?_
  refine lv_bipush (v := 100) hx hb d_Mo_step_3 (by decide) ?_
  refine bw_callS (As := [.int x1, .int (0 : Int32), .int (100 : Int32)]) (rest := [va_rf (some x0)]) C hW ci_Mo_in m_848 m_849 d_Mo_step_5 rfl rfl hl.1 (by simp [bw_cat, cat_i, cat_j]) ⟨Nat.le_of_ble_eq_true rfl, Nat.le_of_ble_eq_true rfl⟩ ⟨hc, hs⟩ (c_Mo_in hl0 _ _ _ _ hq) (fun _ _ _ _ _ _ h => h.elim) (fun v1 w2 H locs hv hW => ?_)
  obtain ⟨i7, rfl, hq⟩ := hv
  refine W.eq (g2 := F0 m 8 ls [.int i7, va_rf (some x0)]) rfl ?_
  refine lv_if_eq (tgt := 15) hx hb d_Mo_step_8 (by decide) (fun c8 => ?_) (fun c8 => ?_)
  · have hq := hq.1 c8
    refine lv_iconst (v := 1) hx hb d_Mo_step_15 (by decide) ?_
    exact k_Mo_step_16 C  _ _ _ _ _ hq _ _ _ _ _ hW (lv_sub hl [0, 1] rfl) hc hs
  · have hq := hq.2 c8
    refine lv_iconst (v := 0) hx hb d_Mo_step_11 (by decide) ?_
    refine lv_goto (tgt := 16) hx hb d_Mo_step_12 (by decide) ?_
    exact k_Mo_step_16 C  _ _ _ _ _ hq _ _ _ _ _ hW (lv_sub hl [0, 1] rfl) hc hs
theorem ci_Mo_step : CI n_Mo_step b_Mo_step 5 (some .int) 1 := ⟨m_902, m_5, by decide, by decide, by decide +kernel⟩
theorem c_Mo_step {l : Launch} {D : va_G} {AC : Nat → ClassId} {e0 mi : Nat} {Q : Int32 → Wd → Prop} (hl0 : l.stackTraces = false) (x0 : Nat) (x1 : Int32) (w : Wd) (hq : wp_Mo_step e0 mi x0 x1 w Q) : Ct l D AC e0 mi n_Mo_step (wy n_Mo_step b_Mo_step 5 (some .int)) 3 72 [va_rf (some x0), .int x1] w 0 0 (fun v w9 => ∃ r9 : Int32, v = some (.int r9) ∧ Q r9 w9) (fun _ _ => False) :=
  Ct.of hl0 (by decide) (by simp [lg_sl, bw_cat, cat_i, cat_j]) (fun p e s m args below meth c A ls C hW hl => k_Mo_step_0 C x0 x1 w hq s.heap [] 0 0 ls hW (by simpa [lv_args, bw_cat, cat_i, cat_j] using hl) (Nat.le_refl _) (Nat.le_refl _))
def wb_Mo_edge_113 (e0 mi : Nat) (Q : Int32 → Wd → Prop) (x0 : Nat) (x1 : Int32) (x2 : Int32) (z0 : Int32) (w : Wd) : Prop :=
  Q z0 w
set_option maxHeartbeats 4000000 in
set_option maxRecDepth 100000 in
theorem k_Mo_edge_113 {p : Program} {l : Launch} {e : Env} {s : State} {m : MethodId} {args : Array Value} {below : List Frame} {meth : Method} {c : Code} {D : va_G} {AC : Nat → ClassId} {e0 mi : Nat} {A : Nat → Prop} {mc ms : Nat} {Q : Int32 → Wd → Prop} (C : Cx p l s m args meth c D AC e0 mi A n_Mo_edge b_Mo_edge 3 (some .int)) (x0 : Nat) (x1 : Int32) (x2 : Int32) (z0 : Int32) (w : Wd) (hq : wb_Mo_edge_113 e0 mi Q x0 x1 x2 z0 w) : ∀ (H : Heap) (locs : List Loc) (cells slots : Nat) (ls : Array Slot), HW D cls8 FTc AC A s.heap H locs w → lv_has ls 3 [(0, va_rf (some x0)), (1, .int x1), (2, .int x2)] → cells ≤ mc → slots ≤ ms → W p l e { frames := 1, cells := mc, slots := ms, locals := 22 } s m args below meth c H locs cells slots (vx_MQ below (QQ D AC A (fun v w9 => ∃ r9 : Int32, v = some (.int r9) ∧ Q r9 w9)) (XX D AC A (fun _ _ => False)) args s mc ms A) (F0 m 113 ls [.int z0]) := by
  obtain ⟨hl0, hx, hb, hr, ht, hown, hlocks, hnm, hml, hex, hK, hA, hZ, hV⟩ := id C
  intro H locs cells slots ls hW hl hc hs
  unfold wb_Mo_edge_113 at hq
  exact bw_iret C hW ⟨_, rfl, hq⟩ d_Mo_edge_113 hc hs
def wb_Mo_edge_33 (e0 mi : Nat) (Q : Int32 → Wd → Prop) (x0 : Nat) (x1 : Int32) (x2 : Int32) (z0 : Option Nat) (z1 : Int32) (w : Wd) : Prop :=
  ∃ a1 : Nat, z0 = some a1 ∧ (bw_is w a1 6 ∧ (bw_is (sI w a1 0 z1) x0 6 ∧ (((wI (sI w a1 0 z1) x0 0) ≤ 0 → ((¬ x2 = 0 → ((¬ x2 = (1 : Int32) → ((¬ x2 = (2 : Int32) → (∃ a8 : Nat, (wR (sI w a1 0 z1) x0 28) = some a8 ∧ (bw_is (sI w a1 0 z1) a8 102 ∧ (vp_in x1 (wN (sI w a1 0 z1) a8) ∧ (wb_Mo_edge_113 e0 mi Q x0 x1 x2 (((wJ (sI w a1 0 z1) a8 x1.toNatClampNeg) &&& (255 : Int64)).toInt32) (sI w a1 0 z1)))))) ∧ (x2 = (2 : Int32) → (∃ a11 : Nat, (wR (sI w a1 0 z1) x0 28) = some a11 ∧ (bw_is (sI w a1 0 z1) a11 102 ∧ (vp_in x1 (wN (sI w a1 0 z1) a11) ∧ (wb_Mo_edge_113 e0 mi Q x0 x1 x2 ((((wJ (sI w a1 0 z1) a11 x1.toNatClampNeg) >>> ((8 : Int32).toInt64 &&& 63)) &&& (65535 : Int64)).toInt32) (sI w a1 0 z1)))))))) ∧ (x2 = (1 : Int32) → (∃ a14 : Nat, (wR (sI w a1 0 z1) x0 28) = some a14 ∧ (bw_is (sI w a1 0 z1) a14 102 ∧ (vp_in x1 (wN (sI w a1 0 z1) a14) ∧ (Q ((((wJ (sI w a1 0 z1) a14 x1.toNatClampNeg) >>> ((24 : Int32).toInt64 &&& 63)) &&& (255 : Int64)).toInt32) (sI w a1 0 z1)))))))) ∧ (x2 = 0 → (∃ a17 : Nat, (wR (sI w a1 0 z1) x0 28) = some a17 ∧ (bw_is (sI w a1 0 z1) a17 102 ∧ (vp_in x1 (wN (sI w a1 0 z1) a17) ∧ (Q (((wJ (sI w a1 0 z1) a17 x1.toNatClampNeg) >>> ((32 : Int32).toInt64 &&& 63)).toInt32) (sI w a1 0 z1)))))))) ∧ (¬ (wI (sI w a1 0 z1) x0 0) ≤ 0 → (Q (0 : Int32) (sI w a1 0 z1))))))
set_option maxHeartbeats 4000000 in
set_option maxRecDepth 100000 in
theorem k_Mo_edge_33 {p : Program} {l : Launch} {e : Env} {s : State} {m : MethodId} {args : Array Value} {below : List Frame} {meth : Method} {c : Code} {D : va_G} {AC : Nat → ClassId} {e0 mi : Nat} {A : Nat → Prop} {mc ms : Nat} {Q : Int32 → Wd → Prop} (C : Cx p l s m args meth c D AC e0 mi A n_Mo_edge b_Mo_edge 3 (some .int)) (x0 : Nat) (x1 : Int32) (x2 : Int32) (z0 : Option Nat) (z1 : Int32) (w : Wd) (hq : wb_Mo_edge_33 e0 mi Q x0 x1 x2 z0 z1 w) : ∀ (H : Heap) (locs : List Loc) (cells slots : Nat) (ls : Array Slot), HW D cls8 FTc AC A s.heap H locs w → lv_has ls 3 [(0, va_rf (some x0)), (1, .int x1), (2, .int x2)] → cells ≤ mc → slots ≤ ms → W p l e { frames := 1, cells := mc, slots := ms, locals := 22 } s m args below meth c H locs cells slots (vx_MQ below (QQ D AC A (fun v w9 => ∃ r9 : Int32, v = some (.int r9) ∧ Q r9 w9)) (XX D AC A (fun _ _ => False)) args s mc ms A) (F0 m 33 ls [.int z1, va_rf z0]) := by
  obtain ⟨hl0, hx, hb, hr, ht, hown, hlocks, hnm, hml, hex, hK, hA, hZ, hV⟩ := id C
  intro H locs cells slots ls hW hl hc hs
  unfold wb_Mo_edge_33 at hq
  obtain ⟨a1, ea1, hq⟩ := hq
  obtain ⟨t2, hq⟩ := hq
  refine bw_putI hx hb ht in_Mo y_Mo yk_Mo nm_Mo hown hK hW ea1 t2 (by decide) rfl 0 (by decide) rfl (ht _ m_744) (fun _ h => h) (Or.inl rfl) rfl rfl d_Mo_edge_33 (fun H locs hW => ?_)
  refine bw_aload_n hx hb d_Mo_edge_36 rfl (lv_at hl 0 rfl) ?_
  obtain ⟨t3, hq⟩ := hq
  refine bw_getI hx hb ht in_Mo hown hK hW rfl t3 (by decide) rfl 0 (by decide) rfl (ht _ m_744) (fun _ h => h) d_Mo_edge_37 ?_
  refine lv_if_le (tgt := 45) hx hb d_Mo_edge_40 (by decide) (fun c4 => ?_) (fun c4 => ?_)
  · have hq := hq.1 c4
    refine lv_iload_n hx hb d_Mo_edge_45 rfl (lv_at hl 2 rfl) ?_
    refine lv_if_ne (tgt := 60) hx hb d_Mo_edge_46 (by decide) (fun c5 => ?_) (fun c5 => ?_)
    · have hq := hq.1 c5
      refine lv_iload_n hx hb d_Mo_edge_60 rfl (lv_at hl 2 rfl) ?_
      refine lv_iconst (v := 1) hx hb d_Mo_edge_61 (by decide) ?_
      refine lv_icmp_ne (tgt := 80) hx hb d_Mo_edge_62 (by decide) (fun c6 => ?_) (fun c6 => ?_)
      · have hq := hq.1 c6
        refine lv_iload_n hx hb d_Mo_edge_80 rfl (lv_at hl 2 rfl) ?_
        refine lv_iconst (v := 2) hx hb d_Mo_edge_81 (by decide) ?_
        refine lv_icmp_ne (tgt := 102) hx hb d_Mo_edge_82 (by decide) (fun c7 => ?_) (fun c7 => ?_)
        · have hq := hq.1 c7
          refine bw_aload_n hx hb d_Mo_edge_102 rfl (lv_at hl 0 rfl) ?_
          refine bw_getR hx hb ht in_Mo hown hK hW rfl t3 (by decide) rfl 28 (by decide) rfl (ht _ m_772) (fun _ h => h) d_Mo_edge_103 ?_
          refine lv_iload_n hx hb d_Mo_edge_106 rfl (lv_at hl 1 rfl) ?_
          obtain ⟨a8, ea8, hq⟩ := hq
          obtain ⟨t9, hq⟩ := hq
          obtain ⟨h10, hq⟩ := hq
          refine bw_lald C hW ea8 t9 h10 d_Mo_edge_107 ?_
          refine lv_ldc2 hx hb hown (ht _ m_907) d_Mo_edge_108 ?_
          refine lv_land hx hb d_Mo_edge_111 ?_
          refine lv_l2i hx hb d_Mo_edge_112 rfl ?_
          exact k_Mo_edge_113 C  _ _ _ _ _ hq _ _ _ _ _ hW (lv_sub hl [0, 1, 2] rfl) hc hs
        · have hq := hq.2 c7
          refine bw_aload_n hx hb d_Mo_edge_85 rfl (lv_at hl 0 rfl) ?_
          refine bw_getR hx hb ht in_Mo hown hK hW rfl t3 (by decide) rfl 28 (by decide) rfl (ht _ m_772) (fun _ h => h) d_Mo_edge_86 ?_
          refine lv_iload_n hx hb d_Mo_edge_89 rfl (lv_at hl 1 rfl) ?_
          obtain ⟨a11, ea11, hq⟩ := hq
          obtain ⟨t12, hq⟩ := hq
          obtain ⟨h13, hq⟩ := hq
          refine bw_lald C hW ea11 t12 h13 d_Mo_edge_90 ?_
          refine lv_bipush (v := 8) hx hb d_Mo_edge_91 (by decide) ?_
          refine lv_lshr hx hb d_Mo_edge_93 rfl ?_
          refine lv_ldc2 hx hb hown (ht _ m_940) d_Mo_edge_94 ?_
          refine lv_land hx hb d_Mo_edge_97 ?_
          refine lv_l2i hx hb d_Mo_edge_98 rfl ?_
          refine lv_goto (tgt := 113) hx hb d_Mo_edge_99 (by decide) ?_
          exact k_Mo_edge_113 C  _ _ _ _ _ hq _ _ _ _ _ hW (lv_sub hl [0, 1, 2] rfl) hc hs
      · have hq := hq.2 c6
        refine bw_aload_n hx hb d_Mo_edge_65 rfl (lv_at hl 0 rfl) ?_
        refine bw_getR hx hb ht in_Mo hown hK hW rfl t3 (by decide) rfl 28 (by decide) rfl (ht _ m_772) (fun _ h => h) d_Mo_edge_66 ?_
        refine lv_iload_n hx hb d_Mo_edge_69 rfl (lv_at hl 1 rfl) ?_
        obtain ⟨a14, ea14, hq⟩ := hq
        obtain ⟨t15, hq⟩ := hq
        obtain ⟨h16, hq⟩ := hq
        refine bw_lald C hW ea14 t15 h16 d_Mo_edge_70 ?_
        refine lv_bipush (v := 24) hx hb d_Mo_edge_71 (by decide) ?_
        refine lv_lshr hx hb d_Mo_edge_73 rfl ?_
        refine lv_ldc2 hx hb hown (ht _ m_907) d_Mo_edge_74 ?_
        refine lv_land hx hb d_Mo_edge_77 ?_
        refine lv_l2i hx hb d_Mo_edge_78 rfl ?_
        exact bw_iret C hW ⟨_, rfl, hq⟩ d_Mo_edge_79 hc hs
    · have hq := hq.2 c5
      refine bw_aload_n hx hb d_Mo_edge_49 rfl (lv_at hl 0 rfl) ?_
      refine bw_getR hx hb ht in_Mo hown hK hW rfl t3 (by decide) rfl 28 (by decide) rfl (ht _ m_772) (fun _ h => h) d_Mo_edge_50 ?_
      refine lv_iload_n hx hb d_Mo_edge_53 rfl (lv_at hl 1 rfl) ?_
      obtain ⟨a17, ea17, hq⟩ := hq
      obtain ⟨t18, hq⟩ := hq
      obtain ⟨h19, hq⟩ := hq
      refine bw_lald C hW ea17 t18 h19 d_Mo_edge_54 ?_
      refine lv_bipush (v := 32) hx hb d_Mo_edge_55 (by decide) ?_
      refine lv_lshr hx hb d_Mo_edge_57 rfl ?_
      refine lv_l2i hx hb d_Mo_edge_58 rfl ?_
      exact bw_iret C hW ⟨_, rfl, hq⟩ d_Mo_edge_59 hc hs
  · have hq := hq.2 c4
    refine lv_iconst (v := 0) hx hb d_Mo_edge_43 (by decide) ?_
    exact bw_iret C hW ⟨_, rfl, hq⟩ d_Mo_edge_44 hc hs
def wp_Mo_edge (e0 mi : Nat) (x0 : Nat) (x1 : Int32) (x2 : Int32) (w : Wd) (Q : Int32 → Wd → Prop) : Prop :=
  bw_is w x0 6 ∧ (wp_Mo_in e0 mi x1 (0 : Int32) ((wI w x0 27) - (1 : Int32)) w (fun i8 w3 => (¬ i8 = 0 → (wp_Mo_in e0 mi x2 (0 : Int32) (3 : Int32) w3 (fun i16 w11 => (¬ i16 = 0 → (wb_Mo_edge_33 e0 mi Q x0 x1 x2 (some x0) (0 : Int32) w11)) ∧ (i16 = 0 → (wb_Mo_edge_33 e0 mi Q x0 x1 x2 (some x0) (2 : Int32) w11))))) ∧ (i8 = 0 → (wb_Mo_edge_33 e0 mi Q x0 x1 x2 (some x0) (1 : Int32) w3))))
set_option maxHeartbeats 4000000 in
set_option maxRecDepth 100000 in
theorem k_Mo_edge_0 {p : Program} {l : Launch} {e : Env} {s : State} {m : MethodId} {args : Array Value} {below : List Frame} {meth : Method} {c : Code} {D : va_G} {AC : Nat → ClassId} {e0 mi : Nat} {A : Nat → Prop} {mc ms : Nat} {Q : Int32 → Wd → Prop} (C : Cx p l s m args meth c D AC e0 mi A n_Mo_edge b_Mo_edge 3 (some .int)) (x0 : Nat) (x1 : Int32) (x2 : Int32) (w : Wd) (hq : wp_Mo_edge e0 mi x0 x1 x2 w Q) : ∀ (H : Heap) (locs : List Loc) (cells slots : Nat) (ls : Array Slot), HW D cls8 FTc AC A s.heap H locs w → lv_has ls 3 [(0, va_rf (some x0)), (1, .int x1), (2, .int x2)] → cells ≤ mc → slots ≤ ms → W p l e { frames := 1, cells := mc, slots := ms, locals := 22 } s m args below meth c H locs cells slots (vx_MQ below (QQ D AC A (fun v w9 => ∃ r9 : Int32, v = some (.int r9) ∧ Q r9 w9)) (XX D AC A (fun _ _ => False)) args s mc ms A) (F0 m 0 ls []) := by
  obtain ⟨hl0, hx, hb, hr, ht, hown, hlocks, hnm, hml, hex, hK, hA, hZ, hV⟩ := id C
  intro H locs cells slots ls hW hl hc hs
  unfold wp_Mo_edge at hq
  refine bw_aload_n hx hb d_Mo_edge_0 rfl (lv_at hl 0 rfl) ?_
  refine lv_iload_n hx hb d_Mo_edge_1 rfl (lv_at hl 1 rfl) ?_
  refine lv_iconst (v := 0) hx hb d_Mo_edge_2 (by decide) ?_
  refine bw_aload_n hx hb d_Mo_edge_3 rfl (lv_at hl 0 rfl) ?_
  obtain ⟨t1, hq⟩ := hq
  refine bw_getI hx hb ht in_Mo hown hK hW rfl t1 (by decide) rfl 27 (by decide) rfl (ht _ m_771) (fun _ h => h) d_Mo_edge_4 ?_
  refine lv_iconst (v := 1) hx hb d_Mo_edge_7 (by decide) ?_
  refine lv_isub hx hb d_Mo_edge_8 ?_
  refine bw_callS (As := [.int x1, .int (0 : Int32), .int ((wI w x0 27) - (1 : Int32))]) (rest := [va_rf (some x0)]) C hW ci_Mo_in m_848 m_849 d_Mo_edge_9 rfl rfl hl.1 (by simp [bw_cat, cat_i, cat_j]) ⟨Nat.le_of_ble_eq_true rfl, Nat.le_of_ble_eq_true rfl⟩ ⟨hc, hs⟩ (c_Mo_in hl0 _ _ _ _ hq) (fun _ _ _ _ _ _ h => h.elim) (fun v2 w3 H locs hv hW => ?_)
  obtain ⟨i8, rfl, hq⟩ := hv
  refine W.eq (g2 := F0 m 12 ls [.int i8, va_rf (some x0)]) rfl ?_
  refine lv_if_ne (tgt := 19) hx hb d_Mo_edge_12 (by decide) (fun c9 => ?_) (fun c9 => ?_)
  · have hq := hq.1 c9
    refine lv_iload_n hx hb d_Mo_edge_19 rfl (lv_at hl 2 rfl) ?_
    refine lv_iconst (v := 0) hx hb d_Mo_edge_20 (by decide) ?_
    refine lv_iconst (v := 3) hx hb d_Mo_edge_21 (by decide) ?_
    refine bw_callS (As := [.int x2, .int (0 : Int32), .int (3 : Int32)]) (rest := [va_rf (some x0)]) C hW ci_Mo_in m_848 m_849 d_Mo_edge_22 rfl rfl hl.1 (by simp [bw_cat, cat_i, cat_j]) ⟨Nat.le_of_ble_eq_true rfl, Nat.le_of_ble_eq_true rfl⟩ ⟨hc, hs⟩ (c_Mo_in hl0 _ _ _ _ hq) (fun _ _ _ _ _ _ h => h.elim) (fun v10 w11 H locs hv hW => ?_)
    obtain ⟨i16, rfl, hq⟩ := hv
    refine W.eq (g2 := F0 m 25 ls [.int i16, va_rf (some x0)]) rfl ?_
    refine lv_if_ne (tgt := 32) hx hb d_Mo_edge_25 (by decide) (fun c17 => ?_) (fun c17 => ?_)
    · have hq := hq.1 c17
      refine lv_iconst (v := 0) hx hb d_Mo_edge_32 (by decide) ?_
      exact k_Mo_edge_33 C  _ _ _ _ _ _ hq _ _ _ _ _ hW (lv_sub hl [0, 1, 2] rfl) hc hs
    · have hq := hq.2 c17
      refine lv_iconst (v := 2) hx hb d_Mo_edge_28 (by decide) ?_
      refine lv_goto (tgt := 33) hx hb d_Mo_edge_29 (by decide) ?_
      exact k_Mo_edge_33 C  _ _ _ _ _ _ hq _ _ _ _ _ hW (lv_sub hl [0, 1, 2] rfl) hc hs
  · have hq := hq.2 c9
    refine lv_iconst (v := 1) hx hb d_Mo_edge_15 (by decide) ?_
    refine lv_goto (tgt := 33) hx hb d_Mo_edge_16 (by decide) ?_
    exact k_Mo_edge_33 C  _ _ _ _ _ _ hq _ _ _ _ _ hW (lv_sub hl [0, 1, 2] rfl) hc hs
theorem ci_Mo_edge : CI n_Mo_edge b_Mo_edge 3 (some .int) 2 := ⟨m_939, m_5, by decide, by decide, by decide +kernel⟩
theorem c_Mo_edge {l : Launch} {D : va_G} {AC : Nat → ClassId} {e0 mi : Nat} {Q : Int32 → Wd → Prop} (hl0 : l.stackTraces = false) (x0 : Nat) (x1 : Int32) (x2 : Int32) (w : Wd) (hq : wp_Mo_edge e0 mi x0 x1 x2 w Q) : Ct l D AC e0 mi n_Mo_edge (wy n_Mo_edge b_Mo_edge 3 (some .int)) 1 22 [va_rf (some x0), .int x1, .int x2] w 0 0 (fun v w9 => ∃ r9 : Int32, v = some (.int r9) ∧ Q r9 w9) (fun _ _ => False) :=
  Ct.of hl0 (by decide) (by simp [lg_sl, bw_cat, cat_i, cat_j]) (fun p e s m args below meth c A ls C hW hl => k_Mo_edge_0 C x0 x1 x2 w hq s.heap [] 0 0 ls hW (by simpa [lv_args, bw_cat, cat_i, cat_j] using hl) (Nat.le_refl _) (Nat.le_refl _))
def wb_Mo_slip_140 (e0 mi : Nat) (Q : Int32 → Wd → Prop) (x0 : Nat) (x1 : Int32) (x2 : Int32) (x3 : Int32) (w : Wd) : Prop :=
  bw_is w x0 6 ∧ (((wI w x0 0) ≤ 0 → (∃ a3 : Nat, (wR w x0 15) = some a3 ∧ (bw_is w a3 101 ∧ (vp_in x1 (wN w a3) ∧ (vp_in x1 (wN w a3) ∧ (∃ a7 : Nat, (wR (sI w a3 x1.toNatClampNeg ((wI w a3 x1.toNatClampNeg) - x2)) x0 15) = some a7 ∧ (bw_is (sI w a3 x1.toNatClampNeg ((wI w a3 x1.toNatClampNeg) - x2)) a7 101 ∧ (vp_in x1 (wN (sI w a3 x1.toNatClampNeg ((wI w a3 x1.toNatClampNeg) - x2)) a7) ∧ (Q (wI (sI w a3 x1.toNatClampNeg ((wI w a3 x1.toNatClampNeg) - x2)) a7 x1.toNatClampNeg) (sI w a3 x1.toNatClampNeg ((wI w a3 x1.toNatClampNeg) - x2))))))))))) ∧ (¬ (wI w x0 0) ≤ 0 → (Q (0 : Int32) w)))
set_option maxHeartbeats 4000000 in
set_option maxRecDepth 100000 in
theorem k_Mo_slip_140 {p : Program} {l : Launch} {e : Env} {s : State} {m : MethodId} {args : Array Value} {below : List Frame} {meth : Method} {c : Code} {D : va_G} {AC : Nat → ClassId} {e0 mi : Nat} {A : Nat → Prop} {mc ms : Nat} {Q : Int32 → Wd → Prop} (C : Cx p l s m args meth c D AC e0 mi A n_Mo_slip b_Mo_slip 4 (some .int)) (x0 : Nat) (x1 : Int32) (x2 : Int32) (x3 : Int32) (w : Wd) (hq : wb_Mo_slip_140 e0 mi Q x0 x1 x2 x3 w) : ∀ (H : Heap) (locs : List Loc) (cells slots : Nat) (ls : Array Slot), HW D cls8 FTc AC A s.heap H locs w → lv_has ls 4 [(0, va_rf (some x0)), (1, .int x1), (2, .int x2), (3, .int x3)] → cells ≤ mc → slots ≤ ms → W p l e { frames := 2, cells := mc, slots := ms, locals := 43 } s m args below meth c H locs cells slots (vx_MQ below (QQ D AC A (fun v w9 => ∃ r9 : Int32, v = some (.int r9) ∧ Q r9 w9)) (XX D AC A (fun _ _ => False)) args s mc ms A) (F0 m 140 ls []) := by
  obtain ⟨hl0, hx, hb, hr, ht, hown, hlocks, hnm, hml, hex, hK, hA, hZ, hV⟩ := id C
  intro H locs cells slots ls hW hl hc hs
  unfold wb_Mo_slip_140 at hq
  refine bw_aload_n hx hb d_Mo_slip_140 rfl (lv_at hl 0 rfl) ?_
  obtain ⟨t1, hq⟩ := hq
  refine bw_getI hx hb ht in_Mo hown hK hW rfl t1 (by decide) rfl 0 (by decide) rfl (ht _ m_744) (fun _ h => h) d_Mo_slip_141 ?_
  refine lv_if_le (tgt := 149) hx hb d_Mo_slip_144 (by decide) (fun c2 => ?_) (fun c2 => ?_)
  · have hq := hq.1 c2
    refine bw_aload_n hx hb d_Mo_slip_149 rfl (lv_at hl 0 rfl) ?_
    refine bw_getR hx hb ht in_Mo hown hK hW rfl t1 (by decide) rfl 15 (by decide) rfl (ht _ m_759) (fun _ h => h) d_Mo_slip_150 ?_
    refine lv_iload_n hx hb d_Mo_slip_153 rfl (lv_at hl 1 rfl) ?_
    refine lv_dup2_11 hx hb d_Mo_slip_154 rfl (bw_cat _) ?_
    obtain ⟨a3, ea3, hq⟩ := hq
    obtain ⟨t4, hq⟩ := hq
    obtain ⟨h5, hq⟩ := hq
    refine bw_iald C hW ea3 t4 h5 d_Mo_slip_155 ?_
    refine lv_iload_n hx hb d_Mo_slip_156 rfl (lv_at hl 2 rfl) ?_
    refine lv_isub hx hb d_Mo_slip_157 ?_
    obtain ⟨h6, hq⟩ := hq
    refine bw_iast C hW ea3 t4 h6 d_Mo_slip_158 (fun H locs hW => ?_)
    refine bw_aload_n hx hb d_Mo_slip_159 rfl (lv_at hl 0 rfl) ?_
    refine bw_getR hx hb ht in_Mo hown hK hW rfl t1 (by decide) rfl 15 (by decide) rfl (ht _ m_759) (fun _ h => h) d_Mo_slip_160 ?_
    refine lv_iload_n hx hb d_Mo_slip_163 rfl (lv_at hl 1 rfl) ?_
    obtain ⟨a7, ea7, hq⟩ := hq
    obtain ⟨t8, hq⟩ := hq
    obtain ⟨h9, hq⟩ := hq
    refine bw_iald C hW ea7 t8 h9 d_Mo_slip_164 ?_
    exact bw_iret C hW ⟨_, rfl, hq⟩ d_Mo_slip_165 hc hs
  · have hq := hq.2 c2
    refine lv_iconst (v := 0) hx hb d_Mo_slip_147 (by decide) ?_
    exact bw_iret C hW ⟨_, rfl, hq⟩ d_Mo_slip_148 hc hs
def wb_Mo_slip_67 (e0 mi : Nat) (Q : Int32 → Wd → Prop) (x0 : Nat) (x1 : Int32) (x2 : Int32) (w : Wd) : Prop :=
  bw_is w x0 6 ∧ (((wI w x0 0) ≤ 0 → (wp_Mo_indexOf e0 mi x0 x1 w (fun i9 w4 => ∀ i10 : Int32, i10 = i9 + (1 : Int32) → (bw_is w4 x0 6 ∧ (∃ a12 : Nat, (wR w4 x0 14) = some a12 ∧ (bw_is w4 a12 101 ∧ (vp_in x1 (wN w4 a12) ∧ (∃ a15 : Nat, (wR w4 x0 10) = some a15 ∧ (bw_is w4 a15 101 ∧ (vp_in (wI w4 a12 x1.toNatClampNeg) (wN w4 a15) ∧ (((wI w4 a15 (wI w4 a12 x1.toNatClampNeg).toNatClampNeg) ≤ i10 → (wb_Mo_slip_140 e0 mi Q x0 x1 x2 i10 w4)) ∧ (¬ (wI w4 a15 (wI w4 a12 x1.toNatClampNeg).toNatClampNeg) ≤ i10 → (wp_Mo_rear e0 mi x0 x1 w4 (fun i25 w20 => bw_is w20 x0 6 ∧ (∃ a27 : Nat, (wR w20 x0 14) = some a27 ∧ (bw_is w20 a27 101 ∧ (vp_in x1 (wN w20 a27) ∧ (∃ a30 : Nat, (wR w20 x0 11) = some a30 ∧ (bw_is w20 a30 101 ∧ (vp_in (((60 : Int32) * (wI w20 a27 x1.toNatClampNeg)) + i10) (wN w20 a30) ∧ (∃ a33 : Nat, (wR w20 x0 15) = some a33 ∧ (bw_is w20 a33 101 ∧ (vp_in (wI w20 a30 (((60 : Int32) * (wI w20 a27 x1.toNatClampNeg)) + i10).toNatClampNeg) (wN w20 a33) ∧ (((wI w20 x0 2) ≤ ((i25 - x2) - (wI w20 a33 (wI w20 a30 (((60 : Int32) * (wI w20 a27 x1.toNatClampNeg)) + i10).toNatClampNeg).toNatClampNeg)) → (wb_Mo_slip_140 e0 mi Q x0 x1 x2 i10 w20)) ∧ (¬ (wI w20 x0 2) ≤ ((i25 - x2) - (wI w20 a33 (wI w20 a30 (((60 : Int32) * (wI w20 a27 x1.toNatClampNeg)) + i10).toNatClampNeg).toNatClampNeg)) → (wb_Mo_slip_140 e0 mi Q x0 x1 x2 i10 (sI w20 x0 0 (3 : Int32)))))))))))))))))))))))))))) ∧ (¬ (wI w x0 0) ≤ 0 → (Q (0 : Int32) w)))
set_option maxHeartbeats 4000000 in
set_option maxRecDepth 100000 in
theorem k_Mo_slip_67 {p : Program} {l : Launch} {e : Env} {s : State} {m : MethodId} {args : Array Value} {below : List Frame} {meth : Method} {c : Code} {D : va_G} {AC : Nat → ClassId} {e0 mi : Nat} {A : Nat → Prop} {mc ms : Nat} {Q : Int32 → Wd → Prop} (C : Cx p l s m args meth c D AC e0 mi A n_Mo_slip b_Mo_slip 4 (some .int)) (x0 : Nat) (x1 : Int32) (x2 : Int32) (w : Wd) (hq : wb_Mo_slip_67 e0 mi Q x0 x1 x2 w) : ∀ (H : Heap) (locs : List Loc) (cells slots : Nat) (ls : Array Slot), HW D cls8 FTc AC A s.heap H locs w → lv_has ls 4 [(0, va_rf (some x0)), (1, .int x1), (2, .int x2)] → cells ≤ mc → slots ≤ ms → W p l e { frames := 2, cells := mc, slots := ms, locals := 43 } s m args below meth c H locs cells slots (vx_MQ below (QQ D AC A (fun v w9 => ∃ r9 : Int32, v = some (.int r9) ∧ Q r9 w9)) (XX D AC A (fun _ _ => False)) args s mc ms A) (F0 m 67 ls []) := by
  obtain ⟨hl0, hx, hb, hr, ht, hown, hlocks, hnm, hml, hex, hK, hA, hZ, hV⟩ := id C
  intro H locs cells slots ls hW hl hc hs
  unfold wb_Mo_slip_67 at hq
  refine bw_aload_n hx hb d_Mo_slip_67 rfl (lv_at hl 0 rfl) ?_
  obtain ⟨t1, hq⟩ := hq
  refine bw_getI hx hb ht in_Mo hown hK hW rfl t1 (by decide) rfl 0 (by decide) rfl (ht _ m_744) (fun _ h => h) d_Mo_slip_68 ?_
  refine lv_if_le (tgt := 76) hx hb d_Mo_slip_71 (by decide) (fun c2 => ?_) (fun c2 => ?_)
  · have hq := hq.1 c2
    refine bw_aload_n hx hb d_Mo_slip_76 rfl (lv_at hl 0 rfl) ?_
    refine lv_iload_n hx hb d_Mo_slip_77 rfl (lv_at hl 1 rfl) ?_
    refine bw_callV (As := [.int x1]) (rest := []) C hW ci_Mo_indexOf m_928 m_930 sel_Mo_indexOf d_Mo_slip_78 rfl t1 (by decide) rfl rfl rfl hl.1 (by decide) ⟨Nat.le_of_ble_eq_true rfl, Nat.le_of_ble_eq_true rfl⟩ ⟨hc, hs⟩ (c_Mo_indexOf hl0 _ _ _ hq) (fun _ _ _ _ _ _ h => h.elim) (fun v3 w4 H locs hv hW => ?_)
    obtain ⟨i9, rfl, hq⟩ := hv
    refine W.eq (g2 := F0 m 81 ls [.int i9]) rfl ?_
    refine lv_iconst (v := 1) hx hb d_Mo_slip_81 (by decide) ?_
    refine lv_iadd hx hb d_Mo_slip_82 ?_
    refine lv_topi (fun i10 ei10 => ?_)
    have hq := hq i10 ei10
    refine lv_istore_n (i := 3) (lv' := [(3, .int i10), (0, va_rf (some x0)), (1, .int x1), (2, .int x2)]) hx hb d_Mo_slip_83 rfl hl (by decide) (by simp [bw_cat, cat_i, cat_j]) (fun ls hl => ?_)
    refine lv_iload_n hx hb d_Mo_slip_84 rfl (lv_at hl 0 rfl) ?_
    refine bw_aload_n hx hb d_Mo_slip_85 rfl (lv_at hl 1 rfl) ?_
    obtain ⟨t11, hq⟩ := hq
    refine bw_getR hx hb ht in_Mo hown hK hW rfl t11 (by decide) rfl 10 (by decide) rfl (ht _ m_754) (fun _ h => h) d_Mo_slip_86 ?_
    refine bw_aload_n hx hb d_Mo_slip_89 rfl (lv_at hl 1 rfl) ?_
    refine bw_getR hx hb ht in_Mo hown hK hW rfl t11 (by decide) rfl 14 (by decide) rfl (ht _ m_758) (fun _ h => h) d_Mo_slip_90 ?_
    refine lv_iload_n hx hb d_Mo_slip_93 rfl (lv_at hl 2 rfl) ?_
    obtain ⟨a12, ea12, hq⟩ := hq
    obtain ⟨t13, hq⟩ := hq
    obtain ⟨h14, hq⟩ := hq
    refine bw_iald C hW ea12 t13 h14 d_Mo_slip_94 ?_
    obtain ⟨a15, ea15, hq⟩ := hq
    obtain ⟨t16, hq⟩ := hq
    obtain ⟨h17, hq⟩ := hq
    refine bw_iald C hW ea15 t16 h17 d_Mo_slip_95 ?_
    refine lv_icmp_ge (tgt := 140) hx hb d_Mo_slip_96 (by decide) (fun c18 => ?_) (fun c18 => ?_)
    · have hq := hq.1 c18
      exact k_Mo_slip_140 C  _ _ _ _ _ hq _ _ _ _ _ hW (lv_sub hl [1, 2, 3, 0] rfl) hc hs
    · have hq := hq.2 c18
      refine bw_aload_n hx hb d_Mo_slip_99 rfl (lv_at hl 1 rfl) ?_
      refine lv_iload_n hx hb d_Mo_slip_100 rfl (lv_at hl 2 rfl) ?_
      refine bw_callV (As := [.int x1]) (rest := []) C hW ci_Mo_rear m_883 m_885 sel_Mo_rear d_Mo_slip_101 rfl t11 (by decide) rfl rfl rfl hl.1 (by decide) ⟨Nat.le_of_ble_eq_true rfl, Nat.le_of_ble_eq_true rfl⟩ ⟨hc, hs⟩ (c_Mo_rear hl0 _ _ _ hq) (fun _ _ _ _ _ _ h => h.elim) (fun v19 w20 H locs hv hW => ?_)
      obtain ⟨i25, rfl, hq⟩ := hv
      refine W.eq (g2 := F0 m 104 ls [.int i25]) rfl ?_
      refine lv_iload_n hx hb d_Mo_slip_104 rfl (lv_at hl 3 rfl) ?_
      refine lv_isub hx hb d_Mo_slip_105 ?_
      refine bw_aload_n hx hb d_Mo_slip_106 rfl (lv_at hl 1 rfl) ?_
      obtain ⟨t26, hq⟩ := hq
      refine bw_getR hx hb ht in_Mo hown hK hW rfl t26 (by decide) rfl 15 (by decide) rfl (ht _ m_759) (fun _ h => h) d_Mo_slip_107 ?_
      refine bw_aload_n hx hb d_Mo_slip_110 rfl (lv_at hl 1 rfl) ?_
      refine bw_getR hx hb ht in_Mo hown hK hW rfl t26 (by decide) rfl 11 (by decide) rfl (ht _ m_755) (fun _ h => h) d_Mo_slip_111 ?_
      refine lv_bipush (v := 60) hx hb d_Mo_slip_114 (by decide) ?_
      refine bw_aload_n hx hb d_Mo_slip_116 rfl (lv_at hl 1 rfl) ?_
      refine bw_getR hx hb ht in_Mo hown hK hW rfl t26 (by decide) rfl 14 (by decide) rfl (ht _ m_758) (fun _ h => h) d_Mo_slip_117 ?_
      refine lv_iload_n hx hb d_Mo_slip_120 rfl (lv_at hl 2 rfl) ?_
      obtain ⟨a27, ea27, hq⟩ := hq
      obtain ⟨t28, hq⟩ := hq
      obtain ⟨h29, hq⟩ := hq
      refine bw_iald C hW ea27 t28 h29 d_Mo_slip_121 ?_
      refine lv_imul hx hb d_Mo_slip_122 ?_
      refine lv_iload_n hx hb d_Mo_slip_123 rfl (lv_at hl 0 rfl) ?_
      refine lv_iadd hx hb d_Mo_slip_124 ?_
      obtain ⟨a30, ea30, hq⟩ := hq
      obtain ⟨t31, hq⟩ := hq
      obtain ⟨h32, hq⟩ := hq
      refine bw_iald C hW ea30 t31 h32 d_Mo_slip_125 ?_
      obtain ⟨a33, ea33, hq⟩ := hq
      obtain ⟨t34, hq⟩ := hq
      obtain ⟨h35, hq⟩ := hq
      refine bw_iald C hW ea33 t34 h35 d_Mo_slip_126 ?_
      refine lv_isub hx hb d_Mo_slip_127 ?_
      refine bw_aload_n hx hb d_Mo_slip_128 rfl (lv_at hl 1 rfl) ?_
      refine bw_getI hx hb ht in_Mo hown hK hW rfl t26 (by decide) rfl 2 (by decide) rfl (ht _ m_746) (fun _ h => h) d_Mo_slip_129 ?_
      refine lv_icmp_ge (tgt := 140) hx hb d_Mo_slip_132 (by decide) (fun c36 => ?_) (fun c36 => ?_)
      · have hq := hq.1 c36
        exact k_Mo_slip_140 C  _ _ _ _ _ hq _ _ _ _ _ hW (lv_sub hl [1, 2, 3, 0] rfl) hc hs
      · have hq := hq.2 c36
        refine bw_aload_n hx hb d_Mo_slip_135 rfl (lv_at hl 1 rfl) ?_
        refine lv_iconst (v := 3) hx hb d_Mo_slip_136 (by decide) ?_
        refine bw_putI hx hb ht in_Mo y_Mo yk_Mo nm_Mo hown hK hW rfl t26 (by decide) rfl 0 (by decide) rfl (ht _ m_744) (fun _ h => h) (Or.inl rfl) rfl rfl d_Mo_slip_137 (fun H locs hW => ?_)
        exact k_Mo_slip_140 C  _ _ _ _ _ hq _ _ _ _ _ hW (lv_sub hl [1, 2, 3, 0] rfl) hc hs
  · have hq := hq.2 c2
    refine lv_iconst (v := 0) hx hb d_Mo_slip_74 (by decide) ?_
    exact bw_iret C hW ⟨_, rfl, hq⟩ d_Mo_slip_75 hc hs
def wb_Mo_slip_64 (e0 mi : Nat) (Q : Int32 → Wd → Prop) (x0 : Nat) (x1 : Int32) (x2 : Int32) (z0 : Option Nat) (z1 : Int32) (w : Wd) : Prop :=
  ∃ a1 : Nat, z0 = some a1 ∧ (bw_is w a1 6 ∧ (wb_Mo_slip_67 e0 mi Q x0 x1 x2 (sI w a1 0 z1)))
set_option maxHeartbeats 4000000 in
set_option maxRecDepth 100000 in
theorem k_Mo_slip_64 {p : Program} {l : Launch} {e : Env} {s : State} {m : MethodId} {args : Array Value} {below : List Frame} {meth : Method} {c : Code} {D : va_G} {AC : Nat → ClassId} {e0 mi : Nat} {A : Nat → Prop} {mc ms : Nat} {Q : Int32 → Wd → Prop} (C : Cx p l s m args meth c D AC e0 mi A n_Mo_slip b_Mo_slip 4 (some .int)) (x0 : Nat) (x1 : Int32) (x2 : Int32) (z0 : Option Nat) (z1 : Int32) (w : Wd) (hq : wb_Mo_slip_64 e0 mi Q x0 x1 x2 z0 z1 w) : ∀ (H : Heap) (locs : List Loc) (cells slots : Nat) (ls : Array Slot), HW D cls8 FTc AC A s.heap H locs w → lv_has ls 4 [(0, va_rf (some x0)), (1, .int x1), (2, .int x2)] → cells ≤ mc → slots ≤ ms → W p l e { frames := 2, cells := mc, slots := ms, locals := 43 } s m args below meth c H locs cells slots (vx_MQ below (QQ D AC A (fun v w9 => ∃ r9 : Int32, v = some (.int r9) ∧ Q r9 w9)) (XX D AC A (fun _ _ => False)) args s mc ms A) (F0 m 64 ls [.int z1, va_rf z0]) := by
  obtain ⟨hl0, hx, hb, hr, ht, hown, hlocks, hnm, hml, hex, hK, hA, hZ, hV⟩ := id C
  intro H locs cells slots ls hW hl hc hs
  unfold wb_Mo_slip_64 at hq
  obtain ⟨a1, ea1, hq⟩ := hq
  obtain ⟨t2, hq⟩ := hq
  refine bw_putI hx hb ht in_Mo y_Mo yk_Mo nm_Mo hown hK hW ea1 t2 (by decide) rfl 0 (by decide) rfl (ht _ m_744) (fun _ h => h) (Or.inl rfl) rfl rfl d_Mo_slip_64 (fun H locs hW => ?_)
  exact k_Mo_slip_67 C  _ _ _ _ hq _ _ _ _ _ hW (lv_sub hl [0, 1, 2] rfl) hc hs
def wb_Mo_slip_59 (e0 mi : Nat) (Q : Int32 → Wd → Prop) (x0 : Nat) (x1 : Int32) (x2 : Int32) (z0 : Option Nat) (w : Wd) : Prop :=
  wb_Mo_slip_64 e0 mi Q x0 x1 x2 z0 (3 : Int32) w
set_option maxHeartbeats 4000000 in
set_option maxRecDepth 100000 in
theorem k_Mo_slip_59 {p : Program} {l : Launch} {e : Env} {s : State} {m : MethodId} {args : Array Value} {below : List Frame} {meth : Method} {c : Code} {D : va_G} {AC : Nat → ClassId} {e0 mi : Nat} {A : Nat → Prop} {mc ms : Nat} {Q : Int32 → Wd → Prop} (C : Cx p l s m args meth c D AC e0 mi A n_Mo_slip b_Mo_slip 4 (some .int)) (x0 : Nat) (x1 : Int32) (x2 : Int32) (z0 : Option Nat) (w : Wd) (hq : wb_Mo_slip_59 e0 mi Q x0 x1 x2 z0 w) : ∀ (H : Heap) (locs : List Loc) (cells slots : Nat) (ls : Array Slot), HW D cls8 FTc AC A s.heap H locs w → lv_has ls 4 [(0, va_rf (some x0)), (1, .int x1), (2, .int x2)] → cells ≤ mc → slots ≤ ms → W p l e { frames := 2, cells := mc, slots := ms, locals := 43 } s m args below meth c H locs cells slots (vx_MQ below (QQ D AC A (fun v w9 => ∃ r9 : Int32, v = some (.int r9) ∧ Q r9 w9)) (XX D AC A (fun _ _ => False)) args s mc ms A) (F0 m 59 ls [va_rf z0]) := by
  obtain ⟨hl0, hx, hb, hr, ht, hown, hlocks, hnm, hml, hex, hK, hA, hZ, hV⟩ := id C
  intro H locs cells slots ls hW hl hc hs
  unfold wb_Mo_slip_59 at hq
  refine lv_iconst (v := 3) hx hb d_Mo_slip_59 (by decide) ?_
  refine lv_goto (tgt := 64) hx hb d_Mo_slip_60 (by decide) ?_
  exact k_Mo_slip_64 C  _ _ _ _ _ _ hq _ _ _ _ _ hW (lv_sub hl [0, 1, 2] rfl) hc hs
def wb_Mo_slip_29 (e0 mi : Nat) (Q : Int32 → Wd → Prop) (x0 : Nat) (x1 : Int32) (x2 : Int32) (z0 : Option Nat) (z1 : Int32) (w : Wd) : Prop :=
  ∃ a1 : Nat, z0 = some a1 ∧ (bw_is w a1 6 ∧ (bw_is (sI w a1 0 z1) x0 6 ∧ ((¬ (wI (sI w a1 0 z1) x0 0) = 0 → (wb_Mo_slip_67 e0 mi Q x0 x1 x2 (sI w a1 0 z1))) ∧ ((wI (sI w a1 0 z1) x0 0) = 0 → (∃ a5 : Nat, (wR (sI w a1 0 z1) x0 13) = some a5 ∧ (bw_is (sI w a1 0 z1) a5 101 ∧ (vp_in x1 (wN (sI w a1 0 z1) a5) ∧ ((¬ (wI (sI w a1 0 z1) a5 x1.toNatClampNeg) = 0 → (wb_Mo_slip_59 e0 mi Q x0 x1 x2 (some x0) (sI w a1 0 z1))) ∧ ((wI (sI w a1 0 z1) a5 x1.toNatClampNeg) = 0 → (∃ a9 : Nat, (wR (sI w a1 0 z1) x0 15) = some a9 ∧ (bw_is (sI w a1 0 z1) a9 101 ∧ (vp_in x1 (wN (sI w a1 0 z1) a9) ∧ ((x2 ≤ (wI (sI w a1 0 z1) a9 x1.toNatClampNeg) → (wb_Mo_slip_64 e0 mi Q x0 x1 x2 (some x0) (0 : Int32) (sI w a1 0 z1))) ∧ (¬ x2 ≤ (wI (sI w a1 0 z1) a9 x1.toNatClampNeg) → (wb_Mo_slip_59 e0 mi Q x0 x1 x2 (some x0) (sI w a1 0 z1))))))))))))))))
set_option maxHeartbeats 4000000 in
set_option maxRecDepth 100000 in
theorem k_Mo_slip_29 {p : Program} {l : Launch} {e : Env} {s : State} {m : MethodId} {args : Array Value} {below : List Frame} {meth : Method} {c : Code} {D : va_G} {AC : Nat → ClassId} {e0 mi : Nat} {A : Nat → Prop} {mc ms : Nat} {Q : Int32 → Wd → Prop} (C : Cx p l s m args meth c D AC e0 mi A n_Mo_slip b_Mo_slip 4 (some .int)) (x0 : Nat) (x1 : Int32) (x2 : Int32) (z0 : Option Nat) (z1 : Int32) (w : Wd) (hq : wb_Mo_slip_29 e0 mi Q x0 x1 x2 z0 z1 w) : ∀ (H : Heap) (locs : List Loc) (cells slots : Nat) (ls : Array Slot), HW D cls8 FTc AC A s.heap H locs w → lv_has ls 4 [(0, va_rf (some x0)), (1, .int x1), (2, .int x2)] → cells ≤ mc → slots ≤ ms → W p l e { frames := 2, cells := mc, slots := ms, locals := 43 } s m args below meth c H locs cells slots (vx_MQ below (QQ D AC A (fun v w9 => ∃ r9 : Int32, v = some (.int r9) ∧ Q r9 w9)) (XX D AC A (fun _ _ => False)) args s mc ms A) (F0 m 29 ls [.int z1, va_rf z0]) := by
  obtain ⟨hl0, hx, hb, hr, ht, hown, hlocks, hnm, hml, hex, hK, hA, hZ, hV⟩ := id C
  intro H locs cells slots ls hW hl hc hs
  unfold wb_Mo_slip_29 at hq
  obtain ⟨a1, ea1, hq⟩ := hq
  obtain ⟨t2, hq⟩ := hq
  refine bw_putI hx hb ht in_Mo y_Mo yk_Mo nm_Mo hown hK hW ea1 t2 (by decide) rfl 0 (by decide) rfl (ht _ m_744) (fun _ h => h) (Or.inl rfl) rfl rfl d_Mo_slip_29 (fun H locs hW => ?_)
  refine bw_aload_n hx hb d_Mo_slip_32 rfl (lv_at hl 0 rfl) ?_
  obtain ⟨t3, hq⟩ := hq
  refine bw_getI hx hb ht in_Mo hown hK hW rfl t3 (by decide) rfl 0 (by decide) rfl (ht _ m_744) (fun _ h => h) d_Mo_slip_33 ?_
  refine lv_if_ne (tgt := 67) hx hb d_Mo_slip_36 (by decide) (fun c4 => ?_) (fun c4 => ?_)
  · have hq := hq.1 c4
    exact k_Mo_slip_67 C  _ _ _ _ hq _ _ _ _ _ hW (lv_sub hl [0, 1, 2] rfl) hc hs
  · have hq := hq.2 c4
    refine bw_aload_n hx hb d_Mo_slip_39 rfl (lv_at hl 0 rfl) ?_
    refine bw_aload_n hx hb d_Mo_slip_40 rfl (lv_at hl 0 rfl) ?_
    refine bw_getR hx hb ht in_Mo hown hK hW rfl t3 (by decide) rfl 13 (by decide) rfl (ht _ m_757) (fun _ h => h) d_Mo_slip_41 ?_
    refine lv_iload_n hx hb d_Mo_slip_44 rfl (lv_at hl 1 rfl) ?_
    obtain ⟨a5, ea5, hq⟩ := hq
    obtain ⟨t6, hq⟩ := hq
    obtain ⟨h7, hq⟩ := hq
    refine bw_iald C hW ea5 t6 h7 d_Mo_slip_45 ?_
    refine lv_if_ne (tgt := 59) hx hb d_Mo_slip_46 (by decide) (fun c8 => ?_) (fun c8 => ?_)
    · have hq := hq.1 c8
      exact k_Mo_slip_59 C  _ _ _ _ _ hq _ _ _ _ _ hW (lv_sub hl [0, 1, 2] rfl) hc hs
    · have hq := hq.2 c8
      refine bw_aload_n hx hb d_Mo_slip_49 rfl (lv_at hl 0 rfl) ?_
      refine bw_getR hx hb ht in_Mo hown hK hW rfl t3 (by decide) rfl 15 (by decide) rfl (ht _ m_759) (fun _ h => h) d_Mo_slip_50 ?_
      refine lv_iload_n hx hb d_Mo_slip_53 rfl (lv_at hl 1 rfl) ?_
      obtain ⟨a9, ea9, hq⟩ := hq
      obtain ⟨t10, hq⟩ := hq
      obtain ⟨h11, hq⟩ := hq
      refine bw_iald C hW ea9 t10 h11 d_Mo_slip_54 ?_
      refine lv_iload_n hx hb d_Mo_slip_55 rfl (lv_at hl 2 rfl) ?_
      refine lv_icmp_ge (tgt := 63) hx hb d_Mo_slip_56 (by decide) (fun c12 => ?_) (fun c12 => ?_)
      · have hq := hq.1 c12
        refine lv_iconst (v := 0) hx hb d_Mo_slip_63 (by decide) ?_
        exact k_Mo_slip_64 C  _ _ _ _ _ _ hq _ _ _ _ _ hW (lv_sub hl [0, 1, 2] rfl) hc hs
      · have hq := hq.2 c12
        exact k_Mo_slip_59 C  _ _ _ _ _ hq _ _ _ _ _ hW (lv_sub hl [0, 1, 2] rfl) hc hs
def wp_Mo_slip (e0 mi : Nat) (x0 : Nat) (x1 : Int32) (x2 : Int32) (w : Wd) (Q : Int32 → Wd → Prop) : Prop :=
  bw_is w x0 6 ∧ (wp_Mo_isItem e0 mi x0 x1 w (fun i8 w3 => (¬ i8 = 0 → (wp_Mo_in e0 mi x2 (1 : Int32) (1000 : Int32) w3 (fun i16 w11 => (¬ i16 = 0 → (wb_Mo_slip_29 e0 mi Q x0 x1 x2 (some x0) (0 : Int32) w11)) ∧ (i16 = 0 → (wb_Mo_slip_29 e0 mi Q x0 x1 x2 (some x0) (2 : Int32) w11))))) ∧ (i8 = 0 → (wb_Mo_slip_29 e0 mi Q x0 x1 x2 (some x0) (1 : Int32) w3))))
set_option maxHeartbeats 4000000 in
set_option maxRecDepth 100000 in
theorem k_Mo_slip_0 {p : Program} {l : Launch} {e : Env} {s : State} {m : MethodId} {args : Array Value} {below : List Frame} {meth : Method} {c : Code} {D : va_G} {AC : Nat → ClassId} {e0 mi : Nat} {A : Nat → Prop} {mc ms : Nat} {Q : Int32 → Wd → Prop} (C : Cx p l s m args meth c D AC e0 mi A n_Mo_slip b_Mo_slip 4 (some .int)) (x0 : Nat) (x1 : Int32) (x2 : Int32) (w : Wd) (hq : wp_Mo_slip e0 mi x0 x1 x2 w Q) : ∀ (H : Heap) (locs : List Loc) (cells slots : Nat) (ls : Array Slot), HW D cls8 FTc AC A s.heap H locs w → lv_has ls 4 [(0, va_rf (some x0)), (1, .int x1), (2, .int x2)] → cells ≤ mc → slots ≤ ms → W p l e { frames := 2, cells := mc, slots := ms, locals := 43 } s m args below meth c H locs cells slots (vx_MQ below (QQ D AC A (fun v w9 => ∃ r9 : Int32, v = some (.int r9) ∧ Q r9 w9)) (XX D AC A (fun _ _ => False)) args s mc ms A) (F0 m 0 ls []) := by
  obtain ⟨hl0, hx, hb, hr, ht, hown, hlocks, hnm, hml, hex, hK, hA, hZ, hV⟩ := id C
  intro H locs cells slots ls hW hl hc hs
  unfold wp_Mo_slip at hq
  refine bw_aload_n hx hb d_Mo_slip_0 rfl (lv_at hl 0 rfl) ?_
  refine bw_aload_n hx hb d_Mo_slip_1 rfl (lv_at hl 0 rfl) ?_
  refine lv_iload_n hx hb d_Mo_slip_2 rfl (lv_at hl 1 rfl) ?_
  obtain ⟨t1, hq⟩ := hq
  refine bw_callV (As := [.int x1]) (rest := [va_rf (some x0)]) C hW ci_Mo_isItem m_895 m_897 sel_Mo_isItem d_Mo_slip_3 rfl t1 (by decide) rfl rfl rfl hl.1 (by simp [bw_cat, cat_i, cat_j]) ⟨Nat.le_of_ble_eq_true rfl, Nat.le_of_ble_eq_true rfl⟩ ⟨hc, hs⟩ (c_Mo_isItem hl0 _ _ _ hq) (fun _ _ _ _ _ _ h => h.elim) (fun v2 w3 H locs hv hW => ?_)
  obtain ⟨i8, rfl, hq⟩ := hv
  refine W.eq (g2 := F0 m 6 ls [.int i8, va_rf (some x0)]) rfl ?_
  refine lv_if_ne (tgt := 13) hx hb d_Mo_slip_6 (by decide) (fun c9 => ?_) (fun c9 => ?_)
  · have hq := hq.1 c9
    refine lv_iload_n hx hb d_Mo_slip_13 rfl (lv_at hl 2 rfl) ?_
    refine lv_iconst (v := 1) hx hb d_Mo_slip_14 (by decide) ?_
    refine lv_sipush (v := 1000) hx hb d_Mo_slip_15 (by decide) ?_
    refine bw_callS (As := [.int x2, .int (1 : Int32), .int (1000 : Int32)]) (rest := [va_rf (some x0)]) C hW ci_Mo_in m_848 m_849 d_Mo_slip_18 rfl rfl hl.1 (by simp [bw_cat, cat_i, cat_j]) ⟨Nat.le_of_ble_eq_true rfl, Nat.le_of_ble_eq_true rfl⟩ ⟨hc, hs⟩ (c_Mo_in hl0 _ _ _ _ hq) (fun _ _ _ _ _ _ h => h.elim) (fun v10 w11 H locs hv hW => ?_)
    obtain ⟨i16, rfl, hq⟩ := hv
    refine W.eq (g2 := F0 m 21 ls [.int i16, va_rf (some x0)]) rfl ?_
    refine lv_if_ne (tgt := 28) hx hb d_Mo_slip_21 (by decide) (fun c17 => ?_) (fun c17 => ?_)
    · have hq := hq.1 c17
      refine lv_iconst (v := 0) hx hb d_Mo_slip_28 (by decide) ?_
      exact k_Mo_slip_29 C  _ _ _ _ _ _ hq _ _ _ _ _ hW (lv_sub hl [0, 1, 2] rfl) hc hs
    · have hq := hq.2 c17
      refine lv_iconst (v := 2) hx hb d_Mo_slip_24 (by decide) ?_
      refine lv_goto (tgt := 29) hx hb d_Mo_slip_25 (by decide) ?_
      exact k_Mo_slip_29 C  _ _ _ _ _ _ hq _ _ _ _ _ hW (lv_sub hl [0, 1, 2] rfl) hc hs
  · have hq := hq.2 c9
    refine lv_iconst (v := 1) hx hb d_Mo_slip_9 (by decide) ?_
    refine lv_goto (tgt := 29) hx hb d_Mo_slip_10 (by decide) ?_
    exact k_Mo_slip_29 C  _ _ _ _ _ _ hq _ _ _ _ _ hW (lv_sub hl [0, 1, 2] rfl) hc hs
theorem ci_Mo_slip : CI n_Mo_slip b_Mo_slip 4 (some .int) 2 := ⟨m_944, m_5, by decide, by decide, by decide +kernel⟩
theorem c_Mo_slip {l : Launch} {D : va_G} {AC : Nat → ClassId} {e0 mi : Nat} {Q : Int32 → Wd → Prop} (hl0 : l.stackTraces = false) (x0 : Nat) (x1 : Int32) (x2 : Int32) (w : Wd) (hq : wp_Mo_slip e0 mi x0 x1 x2 w Q) : Ct l D AC e0 mi n_Mo_slip (wy n_Mo_slip b_Mo_slip 4 (some .int)) 2 43 [va_rf (some x0), .int x1, .int x2] w 0 0 (fun v w9 => ∃ r9 : Int32, v = some (.int r9) ∧ Q r9 w9) (fun _ _ => False) :=
  Ct.of hl0 (by decide) (by simp [lg_sl, bw_cat, cat_i, cat_j]) (fun p e s m args below meth c A ls C hW hl => k_Mo_slip_0 C x0 x1 x2 w hq s.heap [] 0 0 ls hW (by simpa [lv_args, bw_cat, cat_i, cat_j] using hl) (Nat.le_refl _) (Nat.le_refl _))
def wb_Mo_take_42 (e0 mi : Nat) (Q : Wd → Prop) (x0 : Nat) (x1 : Int32) (w : Wd) : Prop :=
  bw_is w x0 6 ∧ (((wI w x0 0) ≤ 0 → (wp_Mo_leave e0 mi x0 x1 w (fun w4 => bw_is w4 x0 6 ∧ (∃ a11 : Nat, (wR w4 x0 13) = some a11 ∧ (bw_is w4 a11 101 ∧ (vp_in x1 (wN w4 a11) ∧ (Q (sI w4 a11 x1.toNatClampNeg (2 : Int32))))))))) ∧ (¬ (wI w x0 0) ≤ 0 → (Q w)))
set_option maxHeartbeats 4000000 in
set_option maxRecDepth 100000 in
theorem k_Mo_take_42 {p : Program} {l : Launch} {e : Env} {s : State} {m : MethodId} {args : Array Value} {below : List Frame} {meth : Method} {c : Code} {D : va_G} {AC : Nat → ClassId} {e0 mi : Nat} {A : Nat → Prop} {mc ms : Nat} {Q : Wd → Prop} (C : Cx p l s m args meth c D AC e0 mi A n_Mo_take b_Mo_take 2 none) (x0 : Nat) (x1 : Int32) (w : Wd) (hq : wb_Mo_take_42 e0 mi Q x0 x1 w) : ∀ (H : Heap) (locs : List Loc) (cells slots : Nat) (ls : Array Slot), HW D cls8 FTc AC A s.heap H locs w → lv_has ls 2 [(0, va_rf (some x0)), (1, .int x1)] → cells ≤ mc → slots ≤ ms → W p l e { frames := 2, cells := mc, slots := ms, locals := 46 } s m args below meth c H locs cells slots (vx_MQ below (QQ D AC A (fun v w9 => v = none ∧ Q w9)) (XX D AC A (fun _ _ => False)) args s mc ms A) (F0 m 42 ls []) := by
  obtain ⟨hl0, hx, hb, hr, ht, hown, hlocks, hnm, hml, hex, hK, hA, hZ, hV⟩ := id C
  intro H locs cells slots ls hW hl hc hs
  unfold wb_Mo_take_42 at hq
  refine bw_aload_n hx hb d_Mo_take_42 rfl (lv_at hl 0 rfl) ?_
  obtain ⟨t1, hq⟩ := hq
  refine bw_getI hx hb ht in_Mo hown hK hW rfl t1 (by decide) rfl 0 (by decide) rfl (ht _ m_744) (fun _ h => h) d_Mo_take_43 ?_
  refine lv_if_le (tgt := 50) hx hb d_Mo_take_46 (by decide) (fun c2 => ?_) (fun c2 => ?_)
  · have hq := hq.1 c2
    refine bw_aload_n hx hb d_Mo_take_50 rfl (lv_at hl 0 rfl) ?_
    refine lv_iload_n hx hb d_Mo_take_51 rfl (lv_at hl 1 rfl) ?_
    refine bw_callV (As := [.int x1]) (rest := []) C hW ci_Mo_leave m_924 m_926 sel_Mo_leave d_Mo_take_52 rfl t1 (by decide) rfl rfl rfl hl.1 (by decide) ⟨Nat.le_of_ble_eq_true rfl, Nat.le_of_ble_eq_true rfl⟩ ⟨hc, hs⟩ (c_Mo_leave hl0 _ _ _ hq) (fun _ _ _ _ _ _ h => h.elim) (fun v3 w4 H locs hv hW => ?_)
    obtain ⟨rfl, hq⟩ := hv
    refine W.eq (g2 := F0 m 55 ls []) rfl ?_
    refine bw_aload_n hx hb d_Mo_take_55 rfl (lv_at hl 0 rfl) ?_
    obtain ⟨t10, hq⟩ := hq
    refine bw_getR hx hb ht in_Mo hown hK hW rfl t10 (by decide) rfl 13 (by decide) rfl (ht _ m_757) (fun _ h => h) d_Mo_take_56 ?_
    refine lv_iload_n hx hb d_Mo_take_59 rfl (lv_at hl 1 rfl) ?_
    refine lv_iconst (v := 2) hx hb d_Mo_take_60 (by decide) ?_
    obtain ⟨a11, ea11, hq⟩ := hq
    obtain ⟨t12, hq⟩ := hq
    obtain ⟨h13, hq⟩ := hq
    refine bw_iast C hW ea11 t12 h13 d_Mo_take_61 (fun H locs hW => ?_)
    exact bw_vret C hW ⟨rfl, hq⟩ d_Mo_take_62 hc hs
  · have hq := hq.2 c2
    exact bw_vret C hW ⟨rfl, hq⟩ d_Mo_take_49 hc hs
def wb_Mo_take_39 (e0 mi : Nat) (Q : Wd → Prop) (x0 : Nat) (x1 : Int32) (z0 : Option Nat) (z1 : Int32) (w : Wd) : Prop :=
  ∃ a1 : Nat, z0 = some a1 ∧ (bw_is w a1 6 ∧ (wb_Mo_take_42 e0 mi Q x0 x1 (sI w a1 0 z1)))
set_option maxHeartbeats 4000000 in
set_option maxRecDepth 100000 in
theorem k_Mo_take_39 {p : Program} {l : Launch} {e : Env} {s : State} {m : MethodId} {args : Array Value} {below : List Frame} {meth : Method} {c : Code} {D : va_G} {AC : Nat → ClassId} {e0 mi : Nat} {A : Nat → Prop} {mc ms : Nat} {Q : Wd → Prop} (C : Cx p l s m args meth c D AC e0 mi A n_Mo_take b_Mo_take 2 none) (x0 : Nat) (x1 : Int32) (z0 : Option Nat) (z1 : Int32) (w : Wd) (hq : wb_Mo_take_39 e0 mi Q x0 x1 z0 z1 w) : ∀ (H : Heap) (locs : List Loc) (cells slots : Nat) (ls : Array Slot), HW D cls8 FTc AC A s.heap H locs w → lv_has ls 2 [(0, va_rf (some x0)), (1, .int x1)] → cells ≤ mc → slots ≤ ms → W p l e { frames := 2, cells := mc, slots := ms, locals := 46 } s m args below meth c H locs cells slots (vx_MQ below (QQ D AC A (fun v w9 => v = none ∧ Q w9)) (XX D AC A (fun _ _ => False)) args s mc ms A) (F0 m 39 ls [.int z1, va_rf z0]) := by
  obtain ⟨hl0, hx, hb, hr, ht, hown, hlocks, hnm, hml, hex, hK, hA, hZ, hV⟩ := id C
  intro H locs cells slots ls hW hl hc hs
  unfold wb_Mo_take_39 at hq
  obtain ⟨a1, ea1, hq⟩ := hq
  obtain ⟨t2, hq⟩ := hq
  refine bw_putI hx hb ht in_Mo y_Mo yk_Mo nm_Mo hown hK hW ea1 t2 (by decide) rfl 0 (by decide) rfl (ht _ m_744) (fun _ h => h) (Or.inl rfl) rfl rfl d_Mo_take_39 (fun H locs hW => ?_)
  exact k_Mo_take_42 C  _ _ _ hq _ _ _ _ _ hW (lv_sub hl [0, 1] rfl) hc hs
def wb_Mo_take_14 (e0 mi : Nat) (Q : Wd → Prop) (x0 : Nat) (x1 : Int32) (z0 : Option Nat) (z1 : Int32) (w : Wd) : Prop :=
  ∃ a1 : Nat, z0 = some a1 ∧ (bw_is w a1 6 ∧ (bw_is (sI w a1 0 z1) x0 6 ∧ ((¬ (wI (sI w a1 0 z1) x0 0) = 0 → (wb_Mo_take_42 e0 mi Q x0 x1 (sI w a1 0 z1))) ∧ ((wI (sI w a1 0 z1) x0 0) = 0 → (∃ a5 : Nat, (wR (sI w a1 0 z1) x0 13) = some a5 ∧ (bw_is (sI w a1 0 z1) a5 101 ∧ (vp_in x1 (wN (sI w a1 0 z1) a5) ∧ (((wI (sI w a1 0 z1) a5 x1.toNatClampNeg) = 0 → (wb_Mo_take_39 e0 mi Q x0 x1 (some x0) (0 : Int32) (sI w a1 0 z1))) ∧ (¬ (wI (sI w a1 0 z1) a5 x1.toNatClampNeg) = 0 → (wb_Mo_take_39 e0 mi Q x0 x1 (some x0) (2 : Int32) (sI w a1 0 z1)))))))))))
set_option maxHeartbeats 4000000 in
set_option maxRecDepth 100000 in
theorem k_Mo_take_14 {p : Program} {l : Launch} {e : Env} {s : State} {m : MethodId} {args : Array Value} {below : List Frame} {meth : Method} {c : Code} {D : va_G} {AC : Nat → ClassId} {e0 mi : Nat} {A : Nat → Prop} {mc ms : Nat} {Q : Wd → Prop} (C : Cx p l s m args meth c D AC e0 mi A n_Mo_take b_Mo_take 2 none) (x0 : Nat) (x1 : Int32) (z0 : Option Nat) (z1 : Int32) (w : Wd) (hq : wb_Mo_take_14 e0 mi Q x0 x1 z0 z1 w) : ∀ (H : Heap) (locs : List Loc) (cells slots : Nat) (ls : Array Slot), HW D cls8 FTc AC A s.heap H locs w → lv_has ls 2 [(0, va_rf (some x0)), (1, .int x1)] → cells ≤ mc → slots ≤ ms → W p l e { frames := 2, cells := mc, slots := ms, locals := 46 } s m args below meth c H locs cells slots (vx_MQ below (QQ D AC A (fun v w9 => v = none ∧ Q w9)) (XX D AC A (fun _ _ => False)) args s mc ms A) (F0 m 14 ls [.int z1, va_rf z0]) := by
  obtain ⟨hl0, hx, hb, hr, ht, hown, hlocks, hnm, hml, hex, hK, hA, hZ, hV⟩ := id C
  intro H locs cells slots ls hW hl hc hs
  unfold wb_Mo_take_14 at hq
  obtain ⟨a1, ea1, hq⟩ := hq
  obtain ⟨t2, hq⟩ := hq
  refine bw_putI hx hb ht in_Mo y_Mo yk_Mo nm_Mo hown hK hW ea1 t2 (by decide) rfl 0 (by decide) rfl (ht _ m_744) (fun _ h => h) (Or.inl rfl) rfl rfl d_Mo_take_14 (fun H locs hW => ?_)
  refine bw_aload_n hx hb d_Mo_take_17 rfl (lv_at hl 0 rfl) ?_
  obtain ⟨t3, hq⟩ := hq
  refine bw_getI hx hb ht in_Mo hown hK hW rfl t3 (by decide) rfl 0 (by decide) rfl (ht _ m_744) (fun _ h => h) d_Mo_take_18 ?_
  refine lv_if_ne (tgt := 42) hx hb d_Mo_take_21 (by decide) (fun c4 => ?_) (fun c4 => ?_)
  · have hq := hq.1 c4
    exact k_Mo_take_42 C  _ _ _ hq _ _ _ _ _ hW (lv_sub hl [0, 1] rfl) hc hs
  · have hq := hq.2 c4
    refine bw_aload_n hx hb d_Mo_take_24 rfl (lv_at hl 0 rfl) ?_
    refine bw_aload_n hx hb d_Mo_take_25 rfl (lv_at hl 0 rfl) ?_
    refine bw_getR hx hb ht in_Mo hown hK hW rfl t3 (by decide) rfl 13 (by decide) rfl (ht _ m_757) (fun _ h => h) d_Mo_take_26 ?_
    refine lv_iload_n hx hb d_Mo_take_29 rfl (lv_at hl 1 rfl) ?_
    obtain ⟨a5, ea5, hq⟩ := hq
    obtain ⟨t6, hq⟩ := hq
    obtain ⟨h7, hq⟩ := hq
    refine bw_iald C hW ea5 t6 h7 d_Mo_take_30 ?_
    refine lv_if_eq (tgt := 38) hx hb d_Mo_take_31 (by decide) (fun c8 => ?_) (fun c8 => ?_)
    · have hq := hq.1 c8
      refine lv_iconst (v := 0) hx hb d_Mo_take_38 (by decide) ?_
      exact k_Mo_take_39 C  _ _ _ _ _ hq _ _ _ _ _ hW (lv_sub hl [0, 1] rfl) hc hs
    · have hq := hq.2 c8
      refine lv_iconst (v := 2) hx hb d_Mo_take_34 (by decide) ?_
      refine lv_goto (tgt := 39) hx hb d_Mo_take_35 (by decide) ?_
      exact k_Mo_take_39 C  _ _ _ _ _ hq _ _ _ _ _ hW (lv_sub hl [0, 1] rfl) hc hs
def wp_Mo_take (e0 mi : Nat) (x0 : Nat) (x1 : Int32) (w : Wd) (Q : Wd → Prop) : Prop :=
  bw_is w x0 6 ∧ (wp_Mo_isItem e0 mi x0 x1 w (fun i8 w3 => (¬ i8 = 0 → (wb_Mo_take_14 e0 mi Q x0 x1 (some x0) (0 : Int32) w3)) ∧ (i8 = 0 → (wb_Mo_take_14 e0 mi Q x0 x1 (some x0) (1 : Int32) w3))))
set_option maxHeartbeats 4000000 in
set_option maxRecDepth 100000 in
theorem k_Mo_take_0 {p : Program} {l : Launch} {e : Env} {s : State} {m : MethodId} {args : Array Value} {below : List Frame} {meth : Method} {c : Code} {D : va_G} {AC : Nat → ClassId} {e0 mi : Nat} {A : Nat → Prop} {mc ms : Nat} {Q : Wd → Prop} (C : Cx p l s m args meth c D AC e0 mi A n_Mo_take b_Mo_take 2 none) (x0 : Nat) (x1 : Int32) (w : Wd) (hq : wp_Mo_take e0 mi x0 x1 w Q) : ∀ (H : Heap) (locs : List Loc) (cells slots : Nat) (ls : Array Slot), HW D cls8 FTc AC A s.heap H locs w → lv_has ls 2 [(0, va_rf (some x0)), (1, .int x1)] → cells ≤ mc → slots ≤ ms → W p l e { frames := 2, cells := mc, slots := ms, locals := 46 } s m args below meth c H locs cells slots (vx_MQ below (QQ D AC A (fun v w9 => v = none ∧ Q w9)) (XX D AC A (fun _ _ => False)) args s mc ms A) (F0 m 0 ls []) := by
  obtain ⟨hl0, hx, hb, hr, ht, hown, hlocks, hnm, hml, hex, hK, hA, hZ, hV⟩ := id C
  intro H locs cells slots ls hW hl hc hs
  unfold wp_Mo_take at hq
  refine bw_aload_n hx hb d_Mo_take_0 rfl (lv_at hl 0 rfl) ?_
  refine bw_aload_n hx hb d_Mo_take_1 rfl (lv_at hl 0 rfl) ?_
  refine lv_iload_n hx hb d_Mo_take_2 rfl (lv_at hl 1 rfl) ?_
  obtain ⟨t1, hq⟩ := hq
  refine bw_callV (As := [.int x1]) (rest := [va_rf (some x0)]) C hW ci_Mo_isItem m_895 m_897 sel_Mo_isItem d_Mo_take_3 rfl t1 (by decide) rfl rfl rfl hl.1 (by simp [bw_cat, cat_i, cat_j]) ⟨Nat.le_of_ble_eq_true rfl, Nat.le_of_ble_eq_true rfl⟩ ⟨hc, hs⟩ (c_Mo_isItem hl0 _ _ _ hq) (fun _ _ _ _ _ _ h => h.elim) (fun v2 w3 H locs hv hW => ?_)
  obtain ⟨i8, rfl, hq⟩ := hv
  refine W.eq (g2 := F0 m 6 ls [.int i8, va_rf (some x0)]) rfl ?_
  refine lv_if_ne (tgt := 13) hx hb d_Mo_take_6 (by decide) (fun c9 => ?_) (fun c9 => ?_)
  · have hq := hq.1 c9
    refine lv_iconst (v := 0) hx hb d_Mo_take_13 (by decide) ?_
    exact k_Mo_take_14 C  _ _ _ _ _ hq _ _ _ _ _ hW (lv_sub hl [0, 1] rfl) hc hs
  · have hq := hq.2 c9
    refine lv_iconst (v := 1) hx hb d_Mo_take_9 (by decide) ?_
    refine lv_goto (tgt := 14) hx hb d_Mo_take_10 (by decide) ?_
    exact k_Mo_take_14 C  _ _ _ _ _ hq _ _ _ _ _ hW (lv_sub hl [0, 1] rfl) hc hs
theorem ci_Mo_take : CI n_Mo_take b_Mo_take 2 none 1 := ⟨m_948, m_5, by decide, by decide, by decide +kernel⟩
theorem c_Mo_take {l : Launch} {D : va_G} {AC : Nat → ClassId} {e0 mi : Nat} {Q : Wd → Prop} (hl0 : l.stackTraces = false) (x0 : Nat) (x1 : Int32) (w : Wd) (hq : wp_Mo_take e0 mi x0 x1 w Q) : Ct l D AC e0 mi n_Mo_take (wy n_Mo_take b_Mo_take 2 none) 2 46 [va_rf (some x0), .int x1] w 0 0 (fun v w9 => v = none ∧ Q w9) (fun _ _ => False) :=
  Ct.of hl0 (by decide) (by simp [lg_sl, bw_cat, cat_i, cat_j]) (fun p e s m args below meth c A ls C hW hl => k_Mo_take_0 C x0 x1 w hq s.heap [] 0 0 ls hW (by simpa [lv_args, bw_cat, cat_i, cat_j] using hl) (Nat.le_refl _) (Nat.le_refl _))
def wb_Mo_clean_60 (e0 mi : Nat) (Q : Int32 → Wd → Prop) : Nat → Nat → Int32 → Int32 → Int32 → Wd → Prop
  | 0, _, _, _, _, _ => False
  | n + 1, x0, x1, x2, x3, w => (x2 ≤ x3 → (bw_is w x0 6 ∧ (∃ a3 : Nat, (wR w x0 10) = some a3 ∧ (bw_is w a3 101 ∧ (vp_in x1 (wN w a3) ∧ (Q x2 (sI w a3 x1.toNatClampNeg (0 : Int32)))))))) ∧ (¬ x2 ≤ x3 → (bw_is w x0 6 ∧ (∃ a7 : Nat, (wR w x0 11) = some a7 ∧ (bw_is w a7 101 ∧ (vp_in (((60 : Int32) * x1) + x3) (wN w a7) ∧ (∃ a10 : Nat, (wR w x0 13) = some a10 ∧ (bw_is w a10 101 ∧ (vp_in (wI w a7 (((60 : Int32) * x1) + x3).toNatClampNeg) (wN w a10) ∧ (∀ i13 : Int32, i13 = x3 + 1 → ((wb_Mo_clean_60 e0 mi Q n) x0 x1 x2 i13 (sI w a10 (wI w a7 (((60 : Int32) * x1) + x3).toNatClampNeg).toNatClampNeg (2 : Int32))))))))))))
set_option maxHeartbeats 4000000 in
set_option maxRecDepth 100000 in
theorem k_Mo_clean_60 {p : Program} {l : Launch} {e : Env} {s : State} {m : MethodId} {args : Array Value} {below : List Frame} {meth : Method} {c : Code} {D : va_G} {AC : Nat → ClassId} {e0 mi : Nat} {A : Nat → Prop} {mc ms : Nat} {Q : Int32 → Wd → Prop} (C : Cx p l s m args meth c D AC e0 mi A n_Mo_clean b_Mo_clean 4 (some .int)) : ∀ (n : Nat) (x0 : Nat) (x1 : Int32) (x2 : Int32) (x3 : Int32) (w : Wd), wb_Mo_clean_60 e0 mi Q n x0 x1 x2 x3 w → ∀ (H : Heap) (locs : List Loc) (cells slots : Nat) (ls : Array Slot), HW D cls8 FTc AC A s.heap H locs w → lv_has ls 4 [(0, va_rf (some x0)), (1, .int x1), (2, .int x2), (3, .int x3)] → cells ≤ mc → slots ≤ ms → W p l e { frames := 2, cells := mc, slots := ms, locals := 43 } s m args below meth c H locs cells slots (vx_MQ below (QQ D AC A (fun v w9 => ∃ r9 : Int32, v = some (.int r9) ∧ Q r9 w9)) (XX D AC A (fun _ _ => False)) args s mc ms A) (F0 m 60 ls []) := by
  obtain ⟨hl0, hx, hb, hr, ht, hown, hlocks, hnm, hml, hex, hK, hA, hZ, hV⟩ := id C
  intro n
  induction n with
  | zero =>
    intro x0 x1 x2 x3 w hq
    exact hq.elim
  | succ n ih =>
    intro x0 x1 x2 x3 w hq H locs cells slots ls hW hl hc hs
    have hK60 := ih
    unfold wb_Mo_clean_60 at hq
    refine lv_iload_n hx hb d_Mo_clean_60 rfl (lv_at hl 3 rfl) ?_
    refine lv_iload_n hx hb d_Mo_clean_61 rfl (lv_at hl 2 rfl) ?_
    refine lv_icmp_ge (tgt := 88) hx hb d_Mo_clean_62 (by decide) (fun c1 => ?_) (fun c1 => ?_)
    · have hq := hq.1 c1
      refine bw_aload_n hx hb d_Mo_clean_88 rfl (lv_at hl 0 rfl) ?_
      obtain ⟨t2, hq⟩ := hq
      refine bw_getR hx hb ht in_Mo hown hK hW rfl t2 (by decide) rfl 10 (by decide) rfl (ht _ m_754) (fun _ h => h) d_Mo_clean_89 ?_
      refine lv_iload_n hx hb d_Mo_clean_92 rfl (lv_at hl 1 rfl) ?_
      refine lv_iconst (v := 0) hx hb d_Mo_clean_93 (by decide) ?_
      obtain ⟨a3, ea3, hq⟩ := hq
      obtain ⟨t4, hq⟩ := hq
      obtain ⟨h5, hq⟩ := hq
      refine bw_iast C hW ea3 t4 h5 d_Mo_clean_94 (fun H locs hW => ?_)
      refine lv_iload_n hx hb d_Mo_clean_95 rfl (lv_at hl 2 rfl) ?_
      exact bw_iret C hW ⟨_, rfl, hq⟩ d_Mo_clean_96 hc hs
    · have hq := hq.2 c1
      refine bw_aload_n hx hb d_Mo_clean_65 rfl (lv_at hl 0 rfl) ?_
      obtain ⟨t6, hq⟩ := hq
      refine bw_getR hx hb ht in_Mo hown hK hW rfl t6 (by decide) rfl 13 (by decide) rfl (ht _ m_757) (fun _ h => h) d_Mo_clean_66 ?_
      refine bw_aload_n hx hb d_Mo_clean_69 rfl (lv_at hl 0 rfl) ?_
      refine bw_getR hx hb ht in_Mo hown hK hW rfl t6 (by decide) rfl 11 (by decide) rfl (ht _ m_755) (fun _ h => h) d_Mo_clean_70 ?_
      refine lv_bipush (v := 60) hx hb d_Mo_clean_73 (by decide) ?_
      refine lv_iload_n hx hb d_Mo_clean_75 rfl (lv_at hl 1 rfl) ?_
      refine lv_imul hx hb d_Mo_clean_76 ?_
      refine lv_iload_n hx hb d_Mo_clean_77 rfl (lv_at hl 3 rfl) ?_
      refine lv_iadd hx hb d_Mo_clean_78 ?_
      obtain ⟨a7, ea7, hq⟩ := hq
      obtain ⟨t8, hq⟩ := hq
      obtain ⟨h9, hq⟩ := hq
      refine bw_iald C hW ea7 t8 h9 d_Mo_clean_79 ?_
      refine lv_iconst (v := 2) hx hb d_Mo_clean_80 (by decide) ?_
      obtain ⟨a10, ea10, hq⟩ := hq
      obtain ⟨t11, hq⟩ := hq
      obtain ⟨h12, hq⟩ := hq
      refine bw_iast C hW ea10 t11 h12 d_Mo_clean_81 (fun H locs hW => ?_)
      obtain ⟨i13, ei13⟩ : ∃ y : Int32, y = x3 + 1 := ⟨_, rfl⟩
      have hq := hq i13 ei13
      refine lv_iinc (v := i13) (lv' := [(3, .int i13), (0, va_rf (some x0)), (1, .int x1), (2, .int x2)]) hx hb d_Mo_clean_82 hl (k := 3) rfl (by rw [ei13]; rfl) (by decide) (by simp [bw_cat, cat_i, cat_j]) (fun ls hl => ?_)
      refine lv_goto (tgt := 60) hx hb d_Mo_clean_85 (by decide) ?_
      exact hK60 _ _ _ _ _ hq _ _ _ _ _ hW (lv_sub hl [1, 2, 3, 0] rfl) hc hs
def wb_Mo_clean_42 (e0 mi : Nat) (Q : Int32 → Wd → Prop) (x0 : Nat) (x1 : Int32) (w : Wd) : Prop :=
  bw_is w x0 6 ∧ (((wI w x0 0) ≤ 0 → (∃ a3 : Nat, (wR w x0 10) = some a3 ∧ (bw_is w a3 101 ∧ (vp_in x1 (wN w a3) ∧ (∀ i6 : Int32, i6 = wI w a3 x1.toNatClampNeg → (∃ n7 : Nat, wb_Mo_clean_60 e0 mi Q n7 x0 x1 i6 (0 : Int32) w)))))) ∧ (¬ (wI w x0 0) ≤ 0 → (Q (0 : Int32) w)))
set_option maxHeartbeats 4000000 in
set_option maxRecDepth 100000 in
theorem k_Mo_clean_42 {p : Program} {l : Launch} {e : Env} {s : State} {m : MethodId} {args : Array Value} {below : List Frame} {meth : Method} {c : Code} {D : va_G} {AC : Nat → ClassId} {e0 mi : Nat} {A : Nat → Prop} {mc ms : Nat} {Q : Int32 → Wd → Prop} (C : Cx p l s m args meth c D AC e0 mi A n_Mo_clean b_Mo_clean 4 (some .int)) (x0 : Nat) (x1 : Int32) (w : Wd) (hq : wb_Mo_clean_42 e0 mi Q x0 x1 w) : ∀ (H : Heap) (locs : List Loc) (cells slots : Nat) (ls : Array Slot), HW D cls8 FTc AC A s.heap H locs w → lv_has ls 4 [(0, va_rf (some x0)), (1, .int x1)] → cells ≤ mc → slots ≤ ms → W p l e { frames := 2, cells := mc, slots := ms, locals := 43 } s m args below meth c H locs cells slots (vx_MQ below (QQ D AC A (fun v w9 => ∃ r9 : Int32, v = some (.int r9) ∧ Q r9 w9)) (XX D AC A (fun _ _ => False)) args s mc ms A) (F0 m 42 ls []) := by
  obtain ⟨hl0, hx, hb, hr, ht, hown, hlocks, hnm, hml, hex, hK, hA, hZ, hV⟩ := id C
  intro H locs cells slots ls hW hl hc hs
  unfold wb_Mo_clean_42 at hq
  refine bw_aload_n hx hb d_Mo_clean_42 rfl (lv_at hl 0 rfl) ?_
  obtain ⟨t1, hq⟩ := hq
  refine bw_getI hx hb ht in_Mo hown hK hW rfl t1 (by decide) rfl 0 (by decide) rfl (ht _ m_744) (fun _ h => h) d_Mo_clean_43 ?_
  refine lv_if_le (tgt := 51) hx hb d_Mo_clean_46 (by decide) (fun c2 => ?_) (fun c2 => ?_)
  · have hq := hq.1 c2
    refine bw_aload_n hx hb d_Mo_clean_51 rfl (lv_at hl 0 rfl) ?_
    refine bw_getR hx hb ht in_Mo hown hK hW rfl t1 (by decide) rfl 10 (by decide) rfl (ht _ m_754) (fun _ h => h) d_Mo_clean_52 ?_
    refine lv_iload_n hx hb d_Mo_clean_55 rfl (lv_at hl 1 rfl) ?_
    obtain ⟨a3, ea3, hq⟩ := hq
    obtain ⟨t4, hq⟩ := hq
    obtain ⟨h5, hq⟩ := hq
    refine bw_iald C hW ea3 t4 h5 d_Mo_clean_56 ?_
    refine lv_topi (fun i6 ei6 => ?_)
    have hq := hq i6 ei6
    refine lv_istore_n (i := 2) (lv' := [(2, .int i6), (0, va_rf (some x0)), (1, .int x1)]) hx hb d_Mo_clean_57 rfl hl (by decide) (by simp [bw_cat, cat_i, cat_j]) (fun ls hl => ?_)
    refine lv_iconst (v := 0) hx hb d_Mo_clean_58 (by decide) ?_
    refine lv_istore_n (i := 3) (lv' := [(3, .int (0 : Int32)), (2, .int i6), (0, va_rf (some x0)), (1, .int x1)]) hx hb d_Mo_clean_59 rfl hl (by decide) (by simp [bw_cat, cat_i, cat_j]) (fun ls hl => ?_)
    obtain ⟨n7, hq⟩ := hq
    exact k_Mo_clean_60 C  n7 _ _ _ _ _ hq _ _ _ _ _ hW (lv_sub hl [2, 3, 1, 0] rfl) hc hs
  · have hq := hq.2 c2
    refine lv_iconst (v := 0) hx hb d_Mo_clean_49 (by decide) ?_
    exact bw_iret C hW ⟨_, rfl, hq⟩ d_Mo_clean_50 hc hs
def wb_Mo_clean_39 (e0 mi : Nat) (Q : Int32 → Wd → Prop) (x0 : Nat) (x1 : Int32) (z0 : Option Nat) (z1 : Int32) (w : Wd) : Prop :=
  ∃ a1 : Nat, z0 = some a1 ∧ (bw_is w a1 6 ∧ (wb_Mo_clean_42 e0 mi Q x0 x1 (sI w a1 0 z1)))
set_option maxHeartbeats 4000000 in
set_option maxRecDepth 100000 in
theorem k_Mo_clean_39 {p : Program} {l : Launch} {e : Env} {s : State} {m : MethodId} {args : Array Value} {below : List Frame} {meth : Method} {c : Code} {D : va_G} {AC : Nat → ClassId} {e0 mi : Nat} {A : Nat → Prop} {mc ms : Nat} {Q : Int32 → Wd → Prop} (C : Cx p l s m args meth c D AC e0 mi A n_Mo_clean b_Mo_clean 4 (some .int)) (x0 : Nat) (x1 : Int32) (z0 : Option Nat) (z1 : Int32) (w : Wd) (hq : wb_Mo_clean_39 e0 mi Q x0 x1 z0 z1 w) : ∀ (H : Heap) (locs : List Loc) (cells slots : Nat) (ls : Array Slot), HW D cls8 FTc AC A s.heap H locs w → lv_has ls 4 [(0, va_rf (some x0)), (1, .int x1)] → cells ≤ mc → slots ≤ ms → W p l e { frames := 2, cells := mc, slots := ms, locals := 43 } s m args below meth c H locs cells slots (vx_MQ below (QQ D AC A (fun v w9 => ∃ r9 : Int32, v = some (.int r9) ∧ Q r9 w9)) (XX D AC A (fun _ _ => False)) args s mc ms A) (F0 m 39 ls [.int z1, va_rf z0]) := by
  obtain ⟨hl0, hx, hb, hr, ht, hown, hlocks, hnm, hml, hex, hK, hA, hZ, hV⟩ := id C
  intro H locs cells slots ls hW hl hc hs
  unfold wb_Mo_clean_39 at hq
  obtain ⟨a1, ea1, hq⟩ := hq
  obtain ⟨t2, hq⟩ := hq
  refine bw_putI hx hb ht in_Mo y_Mo yk_Mo nm_Mo hown hK hW ea1 t2 (by decide) rfl 0 (by decide) rfl (ht _ m_744) (fun _ h => h) (Or.inl rfl) rfl rfl d_Mo_clean_39 (fun H locs hW => ?_)
  exact k_Mo_clean_42 C  _ _ _ hq _ _ _ _ _ hW (lv_sub hl [0, 1] rfl) hc hs
def wb_Mo_clean_14 (e0 mi : Nat) (Q : Int32 → Wd → Prop) (x0 : Nat) (x1 : Int32) (z0 : Option Nat) (z1 : Int32) (w : Wd) : Prop :=
  ∃ a1 : Nat, z0 = some a1 ∧ (bw_is w a1 6 ∧ (bw_is (sI w a1 0 z1) x0 6 ∧ ((¬ (wI (sI w a1 0 z1) x0 0) = 0 → (wb_Mo_clean_42 e0 mi Q x0 x1 (sI w a1 0 z1))) ∧ ((wI (sI w a1 0 z1) x0 0) = 0 → (∃ a5 : Nat, (wR (sI w a1 0 z1) x0 6) = some a5 ∧ (bw_is (sI w a1 0 z1) a5 103 ∧ (vp_in x1 (wN (sI w a1 0 z1) a5) ∧ (((wI (sI w a1 0 z1) a5 x1.toNatClampNeg) = 0 → (wb_Mo_clean_39 e0 mi Q x0 x1 (some x0) (0 : Int32) (sI w a1 0 z1))) ∧ (¬ (wI (sI w a1 0 z1) a5 x1.toNatClampNeg) = 0 → (wb_Mo_clean_39 e0 mi Q x0 x1 (some x0) (2 : Int32) (sI w a1 0 z1)))))))))))
set_option maxHeartbeats 4000000 in
set_option maxRecDepth 100000 in
theorem k_Mo_clean_14 {p : Program} {l : Launch} {e : Env} {s : State} {m : MethodId} {args : Array Value} {below : List Frame} {meth : Method} {c : Code} {D : va_G} {AC : Nat → ClassId} {e0 mi : Nat} {A : Nat → Prop} {mc ms : Nat} {Q : Int32 → Wd → Prop} (C : Cx p l s m args meth c D AC e0 mi A n_Mo_clean b_Mo_clean 4 (some .int)) (x0 : Nat) (x1 : Int32) (z0 : Option Nat) (z1 : Int32) (w : Wd) (hq : wb_Mo_clean_14 e0 mi Q x0 x1 z0 z1 w) : ∀ (H : Heap) (locs : List Loc) (cells slots : Nat) (ls : Array Slot), HW D cls8 FTc AC A s.heap H locs w → lv_has ls 4 [(0, va_rf (some x0)), (1, .int x1)] → cells ≤ mc → slots ≤ ms → W p l e { frames := 2, cells := mc, slots := ms, locals := 43 } s m args below meth c H locs cells slots (vx_MQ below (QQ D AC A (fun v w9 => ∃ r9 : Int32, v = some (.int r9) ∧ Q r9 w9)) (XX D AC A (fun _ _ => False)) args s mc ms A) (F0 m 14 ls [.int z1, va_rf z0]) := by
  obtain ⟨hl0, hx, hb, hr, ht, hown, hlocks, hnm, hml, hex, hK, hA, hZ, hV⟩ := id C
  intro H locs cells slots ls hW hl hc hs
  unfold wb_Mo_clean_14 at hq
  obtain ⟨a1, ea1, hq⟩ := hq
  obtain ⟨t2, hq⟩ := hq
  refine bw_putI hx hb ht in_Mo y_Mo yk_Mo nm_Mo hown hK hW ea1 t2 (by decide) rfl 0 (by decide) rfl (ht _ m_744) (fun _ h => h) (Or.inl rfl) rfl rfl d_Mo_clean_14 (fun H locs hW => ?_)
  refine bw_aload_n hx hb d_Mo_clean_17 rfl (lv_at hl 0 rfl) ?_
  obtain ⟨t3, hq⟩ := hq
  refine bw_getI hx hb ht in_Mo hown hK hW rfl t3 (by decide) rfl 0 (by decide) rfl (ht _ m_744) (fun _ h => h) d_Mo_clean_18 ?_
  refine lv_if_ne (tgt := 42) hx hb d_Mo_clean_21 (by decide) (fun c4 => ?_) (fun c4 => ?_)
  · have hq := hq.1 c4
    exact k_Mo_clean_42 C  _ _ _ hq _ _ _ _ _ hW (lv_sub hl [0, 1] rfl) hc hs
  · have hq := hq.2 c4
    refine bw_aload_n hx hb d_Mo_clean_24 rfl (lv_at hl 0 rfl) ?_
    refine bw_aload_n hx hb d_Mo_clean_25 rfl (lv_at hl 0 rfl) ?_
    refine bw_getR hx hb ht in_Mo hown hK hW rfl t3 (by decide) rfl 6 (by decide) rfl (ht _ m_750) (fun _ h => h) d_Mo_clean_26 ?_
    refine lv_iload_n hx hb d_Mo_clean_29 rfl (lv_at hl 1 rfl) ?_
    obtain ⟨a5, ea5, hq⟩ := hq
    obtain ⟨t6, hq⟩ := hq
    obtain ⟨h7, hq⟩ := hq
    refine bw_zald C hW ea5 t6 h7 d_Mo_clean_30 ?_
    refine lv_if_eq (tgt := 38) hx hb d_Mo_clean_31 (by decide) (fun c8 => ?_) (fun c8 => ?_)
    · have hq := hq.1 c8
      refine lv_iconst (v := 0) hx hb d_Mo_clean_38 (by decide) ?_
      exact k_Mo_clean_39 C  _ _ _ _ _ hq _ _ _ _ _ hW (lv_sub hl [0, 1] rfl) hc hs
    · have hq := hq.2 c8
      refine lv_iconst (v := 2) hx hb d_Mo_clean_34 (by decide) ?_
      refine lv_goto (tgt := 39) hx hb d_Mo_clean_35 (by decide) ?_
      exact k_Mo_clean_39 C  _ _ _ _ _ hq _ _ _ _ _ hW (lv_sub hl [0, 1] rfl) hc hs
def wp_Mo_clean (e0 mi : Nat) (x0 : Nat) (x1 : Int32) (w : Wd) (Q : Int32 → Wd → Prop) : Prop :=
  bw_is w x0 6 ∧ (wp_Mo_isBelt e0 mi x0 x1 w (fun i8 w3 => (¬ i8 = 0 → (wb_Mo_clean_14 e0 mi Q x0 x1 (some x0) (0 : Int32) w3)) ∧ (i8 = 0 → (wb_Mo_clean_14 e0 mi Q x0 x1 (some x0) (1 : Int32) w3))))
set_option maxHeartbeats 4000000 in
set_option maxRecDepth 100000 in
theorem k_Mo_clean_0 {p : Program} {l : Launch} {e : Env} {s : State} {m : MethodId} {args : Array Value} {below : List Frame} {meth : Method} {c : Code} {D : va_G} {AC : Nat → ClassId} {e0 mi : Nat} {A : Nat → Prop} {mc ms : Nat} {Q : Int32 → Wd → Prop} (C : Cx p l s m args meth c D AC e0 mi A n_Mo_clean b_Mo_clean 4 (some .int)) (x0 : Nat) (x1 : Int32) (w : Wd) (hq : wp_Mo_clean e0 mi x0 x1 w Q) : ∀ (H : Heap) (locs : List Loc) (cells slots : Nat) (ls : Array Slot), HW D cls8 FTc AC A s.heap H locs w → lv_has ls 4 [(0, va_rf (some x0)), (1, .int x1)] → cells ≤ mc → slots ≤ ms → W p l e { frames := 2, cells := mc, slots := ms, locals := 43 } s m args below meth c H locs cells slots (vx_MQ below (QQ D AC A (fun v w9 => ∃ r9 : Int32, v = some (.int r9) ∧ Q r9 w9)) (XX D AC A (fun _ _ => False)) args s mc ms A) (F0 m 0 ls []) := by
  obtain ⟨hl0, hx, hb, hr, ht, hown, hlocks, hnm, hml, hex, hK, hA, hZ, hV⟩ := id C
  intro H locs cells slots ls hW hl hc hs
  unfold wp_Mo_clean at hq
  refine bw_aload_n hx hb d_Mo_clean_0 rfl (lv_at hl 0 rfl) ?_
  refine bw_aload_n hx hb d_Mo_clean_1 rfl (lv_at hl 0 rfl) ?_
  refine lv_iload_n hx hb d_Mo_clean_2 rfl (lv_at hl 1 rfl) ?_
  obtain ⟨t1, hq⟩ := hq
  refine bw_callV (As := [.int x1]) (rest := [va_rf (some x0)]) C hW ci_Mo_isBelt m_855 m_857 sel_Mo_isBelt d_Mo_clean_3 rfl t1 (by decide) rfl rfl rfl hl.1 (by simp [bw_cat, cat_i, cat_j]) ⟨Nat.le_of_ble_eq_true rfl, Nat.le_of_ble_eq_true rfl⟩ ⟨hc, hs⟩ (c_Mo_isBelt hl0 _ _ _ hq) (fun _ _ _ _ _ _ h => h.elim) (fun v2 w3 H locs hv hW => ?_)
  obtain ⟨i8, rfl, hq⟩ := hv
  refine W.eq (g2 := F0 m 6 ls [.int i8, va_rf (some x0)]) rfl ?_
  refine lv_if_ne (tgt := 13) hx hb d_Mo_clean_6 (by decide) (fun c9 => ?_) (fun c9 => ?_)
  · have hq := hq.1 c9
    refine lv_iconst (v := 0) hx hb d_Mo_clean_13 (by decide) ?_
    exact k_Mo_clean_14 C  _ _ _ _ _ hq _ _ _ _ _ hW (lv_sub hl [0, 1] rfl) hc hs
  · have hq := hq.2 c9
    refine lv_iconst (v := 1) hx hb d_Mo_clean_9 (by decide) ?_
    refine lv_goto (tgt := 14) hx hb d_Mo_clean_10 (by decide) ?_
    exact k_Mo_clean_14 C  _ _ _ _ _ hq _ _ _ _ _ hW (lv_sub hl [0, 1] rfl) hc hs
theorem ci_Mo_clean : CI n_Mo_clean b_Mo_clean 4 (some .int) 1 := ⟨m_952, m_5, by decide, by decide, by decide +kernel⟩
theorem c_Mo_clean {l : Launch} {D : va_G} {AC : Nat → ClassId} {e0 mi : Nat} {Q : Int32 → Wd → Prop} (hl0 : l.stackTraces = false) (x0 : Nat) (x1 : Int32) (w : Wd) (hq : wp_Mo_clean e0 mi x0 x1 w Q) : Ct l D AC e0 mi n_Mo_clean (wy n_Mo_clean b_Mo_clean 4 (some .int)) 2 43 [va_rf (some x0), .int x1] w 0 0 (fun v w9 => ∃ r9 : Int32, v = some (.int r9) ∧ Q r9 w9) (fun _ _ => False) :=
  Ct.of hl0 (by decide) (by simp [lg_sl, bw_cat, cat_i, cat_j]) (fun p e s m args below meth c A ls C hW hl => k_Mo_clean_0 C x0 x1 w hq s.heap [] 0 0 ls hW (by simpa [lv_args, bw_cat, cat_i, cat_j] using hl) (Nat.le_refl _) (Nat.le_refl _))
def wb_Mo_gap_128 (e0 mi : Nat) (Q : Int32 → Wd → Prop) (x0 : Nat) (x1 : Int32) (x2 : Int32) (z0 : Int32) (w : Wd) : Prop :=
  Q z0 w
set_option maxHeartbeats 4000000 in
set_option maxRecDepth 100000 in
theorem k_Mo_gap_128 {p : Program} {l : Launch} {e : Env} {s : State} {m : MethodId} {args : Array Value} {below : List Frame} {meth : Method} {c : Code} {D : va_G} {AC : Nat → ClassId} {e0 mi : Nat} {A : Nat → Prop} {mc ms : Nat} {Q : Int32 → Wd → Prop} (C : Cx p l s m args meth c D AC e0 mi A n_Mo_gap b_Mo_gap 3 (some .int)) (x0 : Nat) (x1 : Int32) (x2 : Int32) (z0 : Int32) (w : Wd) (hq : wb_Mo_gap_128 e0 mi Q x0 x1 x2 z0 w) : ∀ (H : Heap) (locs : List Loc) (cells slots : Nat) (ls : Array Slot), HW D cls8 FTc AC A s.heap H locs w → lv_has ls 3 [(0, va_rf (some x0)), (1, .int x1), (2, .int x2)] → cells ≤ mc → slots ≤ ms → W p l e { frames := 2, cells := mc, slots := ms, locals := 43 } s m args below meth c H locs cells slots (vx_MQ below (QQ D AC A (fun v w9 => ∃ r9 : Int32, v = some (.int r9) ∧ Q r9 w9)) (XX D AC A (fun _ _ => False)) args s mc ms A) (F0 m 128 ls [.int z0]) := by
  obtain ⟨hl0, hx, hb, hr, ht, hown, hlocks, hnm, hml, hex, hK, hA, hZ, hV⟩ := id C
  intro H locs cells slots ls hW hl hc hs
  unfold wb_Mo_gap_128 at hq
  exact bw_iret C hW ⟨_, rfl, hq⟩ d_Mo_gap_128 hc hs
def wb_Mo_gap_79 (e0 mi : Nat) (Q : Int32 → Wd → Prop) (x0 : Nat) (x1 : Int32) (x2 : Int32) (w : Wd) : Prop :=
  bw_is w x0 6 ∧ (((wI w x0 0) ≤ 0 → (wp_Mo_indexOf e0 mi x0 x1 w (fun i9 w4 => bw_is w4 x0 6 ∧ (wp_Mo_indexOf e0 mi x0 x2 w4 (fun i17 w12 => (i17 ≤ i9 → (bw_is w12 x0 6 ∧ (wp_Mo_rear e0 mi x0 x2 w12 (fun i26 w21 => bw_is w21 x0 6 ∧ (∃ a28 : Nat, (wR w21 x0 15) = some a28 ∧ (bw_is w21 a28 101 ∧ (vp_in x1 (wN w21 a28) ∧ (wb_Mo_gap_128 e0 mi Q x0 x1 x2 (i26 - (wI w21 a28 x1.toNatClampNeg)) w21)))))))) ∧ (¬ i17 ≤ i9 → (bw_is w12 x0 6 ∧ (wp_Mo_rear e0 mi x0 x1 w12 (fun i38 w33 => bw_is w33 x0 6 ∧ (∃ a40 : Nat, (wR w33 x0 15) = some a40 ∧ (bw_is w33 a40 101 ∧ (vp_in x2 (wN w33 a40) ∧ (wb_Mo_gap_128 e0 mi Q x0 x1 x2 (i38 - (wI w33 a40 x2.toNatClampNeg)) w33))))))))))))) ∧ (¬ (wI w x0 0) ≤ 0 → (Q (0 : Int32) w)))
set_option maxHeartbeats 4000000 in
set_option maxRecDepth 100000 in
theorem k_Mo_gap_79 {p : Program} {l : Launch} {e : Env} {s : State} {m : MethodId} {args : Array Value} {below : List Frame} {meth : Method} {c : Code} {D : va_G} {AC : Nat → ClassId} {e0 mi : Nat} {A : Nat → Prop} {mc ms : Nat} {Q : Int32 → Wd → Prop} (C : Cx p l s m args meth c D AC e0 mi A n_Mo_gap b_Mo_gap 3 (some .int)) (x0 : Nat) (x1 : Int32) (x2 : Int32) (w : Wd) (hq : wb_Mo_gap_79 e0 mi Q x0 x1 x2 w) : ∀ (H : Heap) (locs : List Loc) (cells slots : Nat) (ls : Array Slot), HW D cls8 FTc AC A s.heap H locs w → lv_has ls 3 [(0, va_rf (some x0)), (1, .int x1), (2, .int x2)] → cells ≤ mc → slots ≤ ms → W p l e { frames := 2, cells := mc, slots := ms, locals := 43 } s m args below meth c H locs cells slots (vx_MQ below (QQ D AC A (fun v w9 => ∃ r9 : Int32, v = some (.int r9) ∧ Q r9 w9)) (XX D AC A (fun _ _ => False)) args s mc ms A) (F0 m 79 ls []) := by
  obtain ⟨hl0, hx, hb, hr, ht, hown, hlocks, hnm, hml, hex, hK, hA, hZ, hV⟩ := id C
  intro H locs cells slots ls hW hl hc hs
  unfold wb_Mo_gap_79 at hq
  refine bw_aload_n hx hb d_Mo_gap_79 rfl (lv_at hl 0 rfl) ?_
  obtain ⟨t1, hq⟩ := hq
  refine bw_getI hx hb ht in_Mo hown hK hW rfl t1 (by decide) rfl 0 (by decide) rfl (ht _ m_744) (fun _ h => h) d_Mo_gap_80 ?_
  refine lv_if_le (tgt := 88) hx hb d_Mo_gap_83 (by decide) (fun c2 => ?_) (fun c2 => ?_)
  · have hq := hq.1 c2
    refine bw_aload_n hx hb d_Mo_gap_88 rfl (lv_at hl 0 rfl) ?_
    refine lv_iload_n hx hb d_Mo_gap_89 rfl (lv_at hl 1 rfl) ?_
    refine bw_callV (As := [.int x1]) (rest := []) C hW ci_Mo_indexOf m_928 m_930 sel_Mo_indexOf d_Mo_gap_90 rfl t1 (by decide) rfl rfl rfl hl.1 (by decide) ⟨Nat.le_of_ble_eq_true rfl, Nat.le_of_ble_eq_true rfl⟩ ⟨hc, hs⟩ (c_Mo_indexOf hl0 _ _ _ hq) (fun _ _ _ _ _ _ h => h.elim) (fun v3 w4 H locs hv hW => ?_)
    obtain ⟨i9, rfl, hq⟩ := hv
    refine W.eq (g2 := F0 m 93 ls [.int i9]) rfl ?_
    refine bw_aload_n hx hb d_Mo_gap_93 rfl (lv_at hl 0 rfl) ?_
    refine lv_iload_n hx hb d_Mo_gap_94 rfl (lv_at hl 2 rfl) ?_
    obtain ⟨t10, hq⟩ := hq
    refine bw_callV (As := [.int x2]) (rest := [.int i9]) C hW ci_Mo_indexOf m_928 m_930 sel_Mo_indexOf d_Mo_gap_95 rfl t10 (by decide) rfl rfl rfl hl.1 (by simp [bw_cat, cat_i, cat_j]) ⟨Nat.le_of_ble_eq_true rfl, Nat.le_of_ble_eq_true rfl⟩ ⟨hc, hs⟩ (c_Mo_indexOf hl0 _ _ _ hq) (fun _ _ _ _ _ _ h => h.elim) (fun v11 w12 H locs hv hW => ?_)
    obtain ⟨i17, rfl, hq⟩ := hv
    refine W.eq (g2 := F0 m 98 ls [.int i17, .int i9]) rfl ?_
    refine lv_icmp_ge (tgt := 116) hx hb d_Mo_gap_98 (by decide) (fun c18 => ?_) (fun c18 => ?_)
    · have hq := hq.1 c18
      refine bw_aload_n hx hb d_Mo_gap_116 rfl (lv_at hl 0 rfl) ?_
      refine lv_iload_n hx hb d_Mo_gap_117 rfl (lv_at hl 2 rfl) ?_
      obtain ⟨t19, hq⟩ := hq
      refine bw_callV (As := [.int x2]) (rest := []) C hW ci_Mo_rear m_883 m_885 sel_Mo_rear d_Mo_gap_118 rfl t19 (by decide) rfl rfl rfl hl.1 (by decide) ⟨Nat.le_of_ble_eq_true rfl, Nat.le_of_ble_eq_true rfl⟩ ⟨hc, hs⟩ (c_Mo_rear hl0 _ _ _ hq) (fun _ _ _ _ _ _ h => h.elim) (fun v20 w21 H locs hv hW => ?_)
      obtain ⟨i26, rfl, hq⟩ := hv
      refine W.eq (g2 := F0 m 121 ls [.int i26]) rfl ?_
      refine bw_aload_n hx hb d_Mo_gap_121 rfl (lv_at hl 0 rfl) ?_
      obtain ⟨t27, hq⟩ := hq
      refine bw_getR hx hb ht in_Mo hown hK hW rfl t27 (by decide) rfl 15 (by decide) rfl (ht _ m_759) (fun _ h => h) d_Mo_gap_122 ?_
      refine lv_iload_n hx hb d_Mo_gap_125 rfl (lv_at hl 1 rfl) ?_
      obtain ⟨a28, ea28, hq⟩ := hq
      obtain ⟨t29, hq⟩ := hq
      obtain ⟨h30, hq⟩ := hq
      refine bw_iald C hW ea28 t29 h30 d_Mo_gap_126 ?_
      refine lv_isub hx hb d_Mo_gap_127 ?_
      exact k_Mo_gap_128 C  _ _ _ _ _ hq _ _ _ _ _ hW (lv_sub hl [0, 1, 2] rfl) hc hs
    · have hq := hq.2 c18
      refine bw_aload_n hx hb d_Mo_gap_101 rfl (lv_at hl 0 rfl) ?_
      refine lv_iload_n hx hb d_Mo_gap_102 rfl (lv_at hl 1 rfl) ?_
      obtain ⟨t31, hq⟩ := hq
      refine bw_callV (As := [.int x1]) (rest := []) C hW ci_Mo_rear m_883 m_885 sel_Mo_rear d_Mo_gap_103 rfl t31 (by decide) rfl rfl rfl hl.1 (by decide) ⟨Nat.le_of_ble_eq_true rfl, Nat.le_of_ble_eq_true rfl⟩ ⟨hc, hs⟩ (c_Mo_rear hl0 _ _ _ hq) (fun _ _ _ _ _ _ h => h.elim) (fun v32 w33 H locs hv hW => ?_)
      obtain ⟨i38, rfl, hq⟩ := hv
      refine W.eq (g2 := F0 m 106 ls [.int i38]) rfl ?_
      refine bw_aload_n hx hb d_Mo_gap_106 rfl (lv_at hl 0 rfl) ?_
      obtain ⟨t39, hq⟩ := hq
      refine bw_getR hx hb ht in_Mo hown hK hW rfl t39 (by decide) rfl 15 (by decide) rfl (ht _ m_759) (fun _ h => h) d_Mo_gap_107 ?_
      refine lv_iload_n hx hb d_Mo_gap_110 rfl (lv_at hl 2 rfl) ?_
      obtain ⟨a40, ea40, hq⟩ := hq
      obtain ⟨t41, hq⟩ := hq
      obtain ⟨h42, hq⟩ := hq
      refine bw_iald C hW ea40 t41 h42 d_Mo_gap_111 ?_
      refine lv_isub hx hb d_Mo_gap_112 ?_
      refine lv_goto (tgt := 128) hx hb d_Mo_gap_113 (by decide) ?_
      exact k_Mo_gap_128 C  _ _ _ _ _ hq _ _ _ _ _ hW (lv_sub hl [0, 1, 2] rfl) hc hs
  · have hq := hq.2 c2
    refine lv_iconst (v := 0) hx hb d_Mo_gap_86 (by decide) ?_
    exact bw_iret C hW ⟨_, rfl, hq⟩ d_Mo_gap_87 hc hs
def wb_Mo_gap_76 (e0 mi : Nat) (Q : Int32 → Wd → Prop) (x0 : Nat) (x1 : Int32) (x2 : Int32) (z0 : Option Nat) (z1 : Int32) (w : Wd) : Prop :=
  ∃ a1 : Nat, z0 = some a1 ∧ (bw_is w a1 6 ∧ (wb_Mo_gap_79 e0 mi Q x0 x1 x2 (sI w a1 0 z1)))
set_option maxHeartbeats 4000000 in
set_option maxRecDepth 100000 in
theorem k_Mo_gap_76 {p : Program} {l : Launch} {e : Env} {s : State} {m : MethodId} {args : Array Value} {below : List Frame} {meth : Method} {c : Code} {D : va_G} {AC : Nat → ClassId} {e0 mi : Nat} {A : Nat → Prop} {mc ms : Nat} {Q : Int32 → Wd → Prop} (C : Cx p l s m args meth c D AC e0 mi A n_Mo_gap b_Mo_gap 3 (some .int)) (x0 : Nat) (x1 : Int32) (x2 : Int32) (z0 : Option Nat) (z1 : Int32) (w : Wd) (hq : wb_Mo_gap_76 e0 mi Q x0 x1 x2 z0 z1 w) : ∀ (H : Heap) (locs : List Loc) (cells slots : Nat) (ls : Array Slot), HW D cls8 FTc AC A s.heap H locs w → lv_has ls 3 [(0, va_rf (some x0)), (1, .int x1), (2, .int x2)] → cells ≤ mc → slots ≤ ms → W p l e { frames := 2, cells := mc, slots := ms, locals := 43 } s m args below meth c H locs cells slots (vx_MQ below (QQ D AC A (fun v w9 => ∃ r9 : Int32, v = some (.int r9) ∧ Q r9 w9)) (XX D AC A (fun _ _ => False)) args s mc ms A) (F0 m 76 ls [.int z1, va_rf z0]) := by
  obtain ⟨hl0, hx, hb, hr, ht, hown, hlocks, hnm, hml, hex, hK, hA, hZ, hV⟩ := id C
  intro H locs cells slots ls hW hl hc hs
  unfold wb_Mo_gap_76 at hq
  obtain ⟨a1, ea1, hq⟩ := hq
  obtain ⟨t2, hq⟩ := hq
  refine bw_putI hx hb ht in_Mo y_Mo yk_Mo nm_Mo hown hK hW ea1 t2 (by decide) rfl 0 (by decide) rfl (ht _ m_744) (fun _ h => h) (Or.inl rfl) rfl rfl d_Mo_gap_76 (fun H locs hW => ?_)
  exact k_Mo_gap_79 C  _ _ _ _ hq _ _ _ _ _ hW (lv_sub hl [0, 1, 2] rfl) hc hs
def wb_Mo_gap_71 (e0 mi : Nat) (Q : Int32 → Wd → Prop) (x0 : Nat) (x1 : Int32) (x2 : Int32) (z0 : Option Nat) (w : Wd) : Prop :=
  wb_Mo_gap_76 e0 mi Q x0 x1 x2 z0 (2 : Int32) w
set_option maxHeartbeats 4000000 in
set_option maxRecDepth 100000 in
theorem k_Mo_gap_71 {p : Program} {l : Launch} {e : Env} {s : State} {m : MethodId} {args : Array Value} {below : List Frame} {meth : Method} {c : Code} {D : va_G} {AC : Nat → ClassId} {e0 mi : Nat} {A : Nat → Prop} {mc ms : Nat} {Q : Int32 → Wd → Prop} (C : Cx p l s m args meth c D AC e0 mi A n_Mo_gap b_Mo_gap 3 (some .int)) (x0 : Nat) (x1 : Int32) (x2 : Int32) (z0 : Option Nat) (w : Wd) (hq : wb_Mo_gap_71 e0 mi Q x0 x1 x2 z0 w) : ∀ (H : Heap) (locs : List Loc) (cells slots : Nat) (ls : Array Slot), HW D cls8 FTc AC A s.heap H locs w → lv_has ls 3 [(0, va_rf (some x0)), (1, .int x1), (2, .int x2)] → cells ≤ mc → slots ≤ ms → W p l e { frames := 2, cells := mc, slots := ms, locals := 43 } s m args below meth c H locs cells slots (vx_MQ below (QQ D AC A (fun v w9 => ∃ r9 : Int32, v = some (.int r9) ∧ Q r9 w9)) (XX D AC A (fun _ _ => False)) args s mc ms A) (F0 m 71 ls [va_rf z0]) := by
  obtain ⟨hl0, hx, hb, hr, ht, hown, hlocks, hnm, hml, hex, hK, hA, hZ, hV⟩ := id C
  intro H locs cells slots ls hW hl hc hs
  unfold wb_Mo_gap_71 at hq
  refine lv_iconst (v := 2) hx hb d_Mo_gap_71 (by decide) ?_
  refine lv_goto (tgt := 76) hx hb d_Mo_gap_72 (by decide) ?_
  exact k_Mo_gap_76 C  _ _ _ _ _ _ hq _ _ _ _ _ hW (lv_sub hl [0, 1, 2] rfl) hc hs
def wb_Mo_gap_22 (e0 mi : Nat) (Q : Int32 → Wd → Prop) (x0 : Nat) (x1 : Int32) (x2 : Int32) (z0 : Option Nat) (z1 : Int32) (w : Wd) : Prop :=
  ∃ a1 : Nat, z0 = some a1 ∧ (bw_is w a1 6 ∧ (bw_is (sI w a1 0 z1) x0 6 ∧ ((¬ (wI (sI w a1 0 z1) x0 0) = 0 → (wb_Mo_gap_79 e0 mi Q x0 x1 x2 (sI w a1 0 z1))) ∧ ((wI (sI w a1 0 z1) x0 0) = 0 → (∃ a5 : Nat, (wR (sI w a1 0 z1) x0 13) = some a5 ∧ (bw_is (sI w a1 0 z1) a5 101 ∧ (vp_in x1 (wN (sI w a1 0 z1) a5) ∧ ((¬ (wI (sI w a1 0 z1) a5 x1.toNatClampNeg) = 0 → (wb_Mo_gap_71 e0 mi Q x0 x1 x2 (some x0) (sI w a1 0 z1))) ∧ ((wI (sI w a1 0 z1) a5 x1.toNatClampNeg) = 0 → (vp_in x2 (wN (sI w a1 0 z1) a5) ∧ ((¬ (wI (sI w a1 0 z1) a5 x2.toNatClampNeg) = 0 → (wb_Mo_gap_71 e0 mi Q x0 x1 x2 (some x0) (sI w a1 0 z1))) ∧ ((wI (sI w a1 0 z1) a5 x2.toNatClampNeg) = 0 → ((x1 = x2 → (wb_Mo_gap_71 e0 mi Q x0 x1 x2 (some x0) (sI w a1 0 z1))) ∧ (¬ x1 = x2 → (∃ a12 : Nat, (wR (sI w a1 0 z1) x0 14) = some a12 ∧ (bw_is (sI w a1 0 z1) a12 101 ∧ (vp_in x1 (wN (sI w a1 0 z1) a12) ∧ (vp_in x2 (wN (sI w a1 0 z1) a12) ∧ (((wI (sI w a1 0 z1) a12 x1.toNatClampNeg) = (wI (sI w a1 0 z1) a12 x2.toNatClampNeg) → (wb_Mo_gap_76 e0 mi Q x0 x1 x2 (some x0) (0 : Int32) (sI w a1 0 z1))) ∧ (¬ (wI (sI w a1 0 z1) a12 x1.toNatClampNeg) = (wI (sI w a1 0 z1) a12 x2.toNatClampNeg) → (wb_Mo_gap_71 e0 mi Q x0 x1 x2 (some x0) (sI w a1 0 z1))))))))))))))))))))))
set_option maxHeartbeats 4000000 in
set_option maxRecDepth 100000 in
theorem k_Mo_gap_22 {p : Program} {l : Launch} {e : Env} {s : State} {m : MethodId} {args : Array Value} {below : List Frame} {meth : Method} {c : Code} {D : va_G} {AC : Nat → ClassId} {e0 mi : Nat} {A : Nat → Prop} {mc ms : Nat} {Q : Int32 → Wd → Prop} (C : Cx p l s m args meth c D AC e0 mi A n_Mo_gap b_Mo_gap 3 (some .int)) (x0 : Nat) (x1 : Int32) (x2 : Int32) (z0 : Option Nat) (z1 : Int32) (w : Wd) (hq : wb_Mo_gap_22 e0 mi Q x0 x1 x2 z0 z1 w) : ∀ (H : Heap) (locs : List Loc) (cells slots : Nat) (ls : Array Slot), HW D cls8 FTc AC A s.heap H locs w → lv_has ls 3 [(0, va_rf (some x0)), (1, .int x1), (2, .int x2)] → cells ≤ mc → slots ≤ ms → W p l e { frames := 2, cells := mc, slots := ms, locals := 43 } s m args below meth c H locs cells slots (vx_MQ below (QQ D AC A (fun v w9 => ∃ r9 : Int32, v = some (.int r9) ∧ Q r9 w9)) (XX D AC A (fun _ _ => False)) args s mc ms A) (F0 m 22 ls [.int z1, va_rf z0]) := by
  obtain ⟨hl0, hx, hb, hr, ht, hown, hlocks, hnm, hml, hex, hK, hA, hZ, hV⟩ := id C
  intro H locs cells slots ls hW hl hc hs
  unfold wb_Mo_gap_22 at hq
  obtain ⟨a1, ea1, hq⟩ := hq
  obtain ⟨t2, hq⟩ := hq
  refine bw_putI hx hb ht in_Mo y_Mo yk_Mo nm_Mo hown hK hW ea1 t2 (by decide) rfl 0 (by decide) rfl (ht _ m_744) (fun _ h => h) (Or.inl rfl) rfl rfl d_Mo_gap_22 (fun H locs hW => ?_)
  refine bw_aload_n hx hb d_Mo_gap_25 rfl (lv_at hl 0 rfl) ?_
  obtain ⟨t3, hq⟩ := hq
  refine bw_getI hx hb ht in_Mo hown hK hW rfl t3 (by decide) rfl 0 (by decide) rfl (ht _ m_744) (fun _ h => h) d_Mo_gap_26 ?_
  refine lv_if_ne (tgt := 79) hx hb d_Mo_gap_29 (by decide) (fun c4 => ?_) (fun c4 => ?_)
  · have hq := hq.1 c4
    exact k_Mo_gap_79 C  _ _ _ _ hq _ _ _ _ _ hW (lv_sub hl [0, 1, 2] rfl) hc hs
  · have hq := hq.2 c4
    refine bw_aload_n hx hb d_Mo_gap_32 rfl (lv_at hl 0 rfl) ?_
    refine bw_aload_n hx hb d_Mo_gap_33 rfl (lv_at hl 0 rfl) ?_
    refine bw_getR hx hb ht in_Mo hown hK hW rfl t3 (by decide) rfl 13 (by decide) rfl (ht _ m_757) (fun _ h => h) d_Mo_gap_34 ?_
    refine lv_iload_n hx hb d_Mo_gap_37 rfl (lv_at hl 1 rfl) ?_
    obtain ⟨a5, ea5, hq⟩ := hq
    obtain ⟨t6, hq⟩ := hq
    obtain ⟨h7, hq⟩ := hq
    refine bw_iald C hW ea5 t6 h7 d_Mo_gap_38 ?_
    refine lv_if_ne (tgt := 71) hx hb d_Mo_gap_39 (by decide) (fun c8 => ?_) (fun c8 => ?_)
    · have hq := hq.1 c8
      exact k_Mo_gap_71 C  _ _ _ _ _ hq _ _ _ _ _ hW (lv_sub hl [0, 1, 2] rfl) hc hs
    · have hq := hq.2 c8
      refine bw_aload_n hx hb d_Mo_gap_42 rfl (lv_at hl 0 rfl) ?_
      refine bw_getR hx hb ht in_Mo hown hK hW rfl t3 (by decide) rfl 13 (by decide) rfl (ht _ m_757) (fun _ h => h) d_Mo_gap_43 ?_
      refine lv_iload_n hx hb d_Mo_gap_46 rfl (lv_at hl 2 rfl) ?_
      obtain ⟨h9, hq⟩ := hq
      refine bw_iald C hW ea5 t6 h9 d_Mo_gap_47 ?_
      refine lv_if_ne (tgt := 71) hx hb d_Mo_gap_48 (by decide) (fun c10 => ?_) (fun c10 => ?_)
      · have hq := hq.1 c10
        exact k_Mo_gap_71 C  _ _ _ _ _ hq _ _ _ _ _ hW (lv_sub hl [0, 1, 2] rfl) hc hs
      · have hq := hq.2 c10
        refine lv_iload_n hx hb d_Mo_gap_51 rfl (lv_at hl 1 rfl) ?_
        refine lv_iload_n hx hb d_Mo_gap_52 rfl (lv_at hl 2 rfl) ?_
        refine lv_icmp_eq (tgt := 71) hx hb d_Mo_gap_53 (by decide) (fun c11 => ?_) (fun c11 => ?_)
        · have hq := hq.1 c11
          exact k_Mo_gap_71 C  _ _ _ _ _ hq _ _ _ _ _ hW (lv_sub hl [0, 1, 2] rfl) hc hs
        · have hq := hq.2 c11
          refine bw_aload_n hx hb d_Mo_gap_56 rfl (lv_at hl 0 rfl) ?_
          refine bw_getR hx hb ht in_Mo hown hK hW rfl t3 (by decide) rfl 14 (by decide) rfl (ht _ m_758) (fun _ h => h) d_Mo_gap_57 ?_
          refine lv_iload_n hx hb d_Mo_gap_60 rfl (lv_at hl 1 rfl) ?_
          obtain ⟨a12, ea12, hq⟩ := hq
          obtain ⟨t13, hq⟩ := hq
          obtain ⟨h14, hq⟩ := hq
          refine bw_iald C hW ea12 t13 h14 d_Mo_gap_61 ?_
          refine bw_aload_n hx hb d_Mo_gap_62 rfl (lv_at hl 0 rfl) ?_
          refine bw_getR hx hb ht in_Mo hown hK hW rfl t3 (by decide) rfl 14 (by decide) rfl (ht _ m_758) (fun _ h => h) d_Mo_gap_63 ?_
          refine lv_iload_n hx hb d_Mo_gap_66 rfl (lv_at hl 2 rfl) ?_
          obtain ⟨h15, hq⟩ := hq
          refine bw_iald C hW ea12 t13 h15 d_Mo_gap_67 ?_
          refine lv_icmp_eq (tgt := 75) hx hb d_Mo_gap_68 (by decide) (fun c16 => ?_) (fun c16 => ?_)
          · have hq := hq.1 c16
            refine lv_iconst (v := 0) hx hb d_Mo_gap_75 (by decide) ?_
            exact k_Mo_gap_76 C  _ _ _ _ _ _ hq _ _ _ _ _ hW (lv_sub hl [0, 1, 2] rfl) hc hs
          · have hq := hq.2 c16
            exact k_Mo_gap_71 C  _ _ _ _ _ hq _ _ _ _ _ hW (lv_sub hl [0, 1, 2] rfl) hc hs
def wb_Mo_gap_17 (e0 mi : Nat) (Q : Int32 → Wd → Prop) (x0 : Nat) (x1 : Int32) (x2 : Int32) (z0 : Option Nat) (w : Wd) : Prop :=
  wb_Mo_gap_22 e0 mi Q x0 x1 x2 z0 (1 : Int32) w
set_option maxHeartbeats 4000000 in
set_option maxRecDepth 100000 in
theorem k_Mo_gap_17 {p : Program} {l : Launch} {e : Env} {s : State} {m : MethodId} {args : Array Value} {below : List Frame} {meth : Method} {c : Code} {D : va_G} {AC : Nat → ClassId} {e0 mi : Nat} {A : Nat → Prop} {mc ms : Nat} {Q : Int32 → Wd → Prop} (C : Cx p l s m args meth c D AC e0 mi A n_Mo_gap b_Mo_gap 3 (some .int)) (x0 : Nat) (x1 : Int32) (x2 : Int32) (z0 : Option Nat) (w : Wd) (hq : wb_Mo_gap_17 e0 mi Q x0 x1 x2 z0 w) : ∀ (H : Heap) (locs : List Loc) (cells slots : Nat) (ls : Array Slot), HW D cls8 FTc AC A s.heap H locs w → lv_has ls 3 [(0, va_rf (some x0)), (1, .int x1), (2, .int x2)] → cells ≤ mc → slots ≤ ms → W p l e { frames := 2, cells := mc, slots := ms, locals := 43 } s m args below meth c H locs cells slots (vx_MQ below (QQ D AC A (fun v w9 => ∃ r9 : Int32, v = some (.int r9) ∧ Q r9 w9)) (XX D AC A (fun _ _ => False)) args s mc ms A) (F0 m 17 ls [va_rf z0]) := by
  obtain ⟨hl0, hx, hb, hr, ht, hown, hlocks, hnm, hml, hex, hK, hA, hZ, hV⟩ := id C
  intro H locs cells slots ls hW hl hc hs
  unfold wb_Mo_gap_17 at hq
  refine lv_iconst (v := 1) hx hb d_Mo_gap_17 (by decide) ?_
  refine lv_goto (tgt := 22) hx hb d_Mo_gap_18 (by decide) ?_
  exact k_Mo_gap_22 C  _ _ _ _ _ _ hq _ _ _ _ _ hW (lv_sub hl [0, 1, 2] rfl) hc hs
def wp_Mo_gap (e0 mi : Nat) (x0 : Nat) (x1 : Int32) (x2 : Int32) (w : Wd) (Q : Int32 → Wd → Prop) : Prop :=
  bw_is w x0 6 ∧ (wp_Mo_isItem e0 mi x0 x1 w (fun i8 w3 => (i8 = 0 → (wb_Mo_gap_17 e0 mi Q x0 x1 x2 (some x0) w3)) ∧ (¬ i8 = 0 → (bw_is w3 x0 6 ∧ (wp_Mo_isItem e0 mi x0 x2 w3 (fun i17 w12 => (¬ i17 = 0 → (wb_Mo_gap_22 e0 mi Q x0 x1 x2 (some x0) (0 : Int32) w12)) ∧ (i17 = 0 → (wb_Mo_gap_17 e0 mi Q x0 x1 x2 (some x0) w12))))))))
set_option maxHeartbeats 4000000 in
set_option maxRecDepth 100000 in
theorem k_Mo_gap_0 {p : Program} {l : Launch} {e : Env} {s : State} {m : MethodId} {args : Array Value} {below : List Frame} {meth : Method} {c : Code} {D : va_G} {AC : Nat → ClassId} {e0 mi : Nat} {A : Nat → Prop} {mc ms : Nat} {Q : Int32 → Wd → Prop} (C : Cx p l s m args meth c D AC e0 mi A n_Mo_gap b_Mo_gap 3 (some .int)) (x0 : Nat) (x1 : Int32) (x2 : Int32) (w : Wd) (hq : wp_Mo_gap e0 mi x0 x1 x2 w Q) : ∀ (H : Heap) (locs : List Loc) (cells slots : Nat) (ls : Array Slot), HW D cls8 FTc AC A s.heap H locs w → lv_has ls 3 [(0, va_rf (some x0)), (1, .int x1), (2, .int x2)] → cells ≤ mc → slots ≤ ms → W p l e { frames := 2, cells := mc, slots := ms, locals := 43 } s m args below meth c H locs cells slots (vx_MQ below (QQ D AC A (fun v w9 => ∃ r9 : Int32, v = some (.int r9) ∧ Q r9 w9)) (XX D AC A (fun _ _ => False)) args s mc ms A) (F0 m 0 ls []) := by
  obtain ⟨hl0, hx, hb, hr, ht, hown, hlocks, hnm, hml, hex, hK, hA, hZ, hV⟩ := id C
  intro H locs cells slots ls hW hl hc hs
  unfold wp_Mo_gap at hq
  refine bw_aload_n hx hb d_Mo_gap_0 rfl (lv_at hl 0 rfl) ?_
  refine bw_aload_n hx hb d_Mo_gap_1 rfl (lv_at hl 0 rfl) ?_
  refine lv_iload_n hx hb d_Mo_gap_2 rfl (lv_at hl 1 rfl) ?_
  obtain ⟨t1, hq⟩ := hq
  refine bw_callV (As := [.int x1]) (rest := [va_rf (some x0)]) C hW ci_Mo_isItem m_895 m_897 sel_Mo_isItem d_Mo_gap_3 rfl t1 (by decide) rfl rfl rfl hl.1 (by simp [bw_cat, cat_i, cat_j]) ⟨Nat.le_of_ble_eq_true rfl, Nat.le_of_ble_eq_true rfl⟩ ⟨hc, hs⟩ (c_Mo_isItem hl0 _ _ _ hq) (fun _ _ _ _ _ _ h => h.elim) (fun v2 w3 H locs hv hW => ?_)
  obtain ⟨i8, rfl, hq⟩ := hv
  refine W.eq (g2 := F0 m 6 ls [.int i8, va_rf (some x0)]) rfl ?_
  refine lv_if_eq (tgt := 17) hx hb d_Mo_gap_6 (by decide) (fun c9 => ?_) (fun c9 => ?_)
  · have hq := hq.1 c9
    exact k_Mo_gap_17 C  _ _ _ _ _ hq _ _ _ _ _ hW (lv_sub hl [0, 1, 2] rfl) hc hs
  · have hq := hq.2 c9
    refine bw_aload_n hx hb d_Mo_gap_9 rfl (lv_at hl 0 rfl) ?_
    refine lv_iload_n hx hb d_Mo_gap_10 rfl (lv_at hl 2 rfl) ?_
    obtain ⟨t10, hq⟩ := hq
    refine bw_callV (As := [.int x2]) (rest := [va_rf (some x0)]) C hW ci_Mo_isItem m_895 m_897 sel_Mo_isItem d_Mo_gap_11 rfl t10 (by decide) rfl rfl rfl hl.1 (by simp [bw_cat, cat_i, cat_j]) ⟨Nat.le_of_ble_eq_true rfl, Nat.le_of_ble_eq_true rfl⟩ ⟨hc, hs⟩ (c_Mo_isItem hl0 _ _ _ hq) (fun _ _ _ _ _ _ h => h.elim) (fun v11 w12 H locs hv hW => ?_)
    obtain ⟨i17, rfl, hq⟩ := hv
    refine W.eq (g2 := F0 m 14 ls [.int i17, va_rf (some x0)]) rfl ?_
    refine lv_if_ne (tgt := 21) hx hb d_Mo_gap_14 (by decide) (fun c18 => ?_) (fun c18 => ?_)
    · have hq := hq.1 c18
      refine lv_iconst (v := 0) hx hb d_Mo_gap_21 (by decide) ?_
      exact k_Mo_gap_22 C  _ _ _ _ _ _ hq _ _ _ _ _ hW (lv_sub hl [0, 1, 2] rfl) hc hs
    · have hq := hq.2 c18
      exact k_Mo_gap_17 C  _ _ _ _ _ hq _ _ _ _ _ hW (lv_sub hl [0, 1, 2] rfl) hc hs
theorem ci_Mo_gap : CI n_Mo_gap b_Mo_gap 3 (some .int) 2 := ⟨m_956, m_5, by decide, by decide, by decide +kernel⟩
theorem c_Mo_gap {l : Launch} {D : va_G} {AC : Nat → ClassId} {e0 mi : Nat} {Q : Int32 → Wd → Prop} (hl0 : l.stackTraces = false) (x0 : Nat) (x1 : Int32) (x2 : Int32) (w : Wd) (hq : wp_Mo_gap e0 mi x0 x1 x2 w Q) : Ct l D AC e0 mi n_Mo_gap (wy n_Mo_gap b_Mo_gap 3 (some .int)) 2 43 [va_rf (some x0), .int x1, .int x2] w 0 0 (fun v w9 => ∃ r9 : Int32, v = some (.int r9) ∧ Q r9 w9) (fun _ _ => False) :=
  Ct.of hl0 (by decide) (by simp [lg_sl, bw_cat, cat_i, cat_j]) (fun p e s m args below meth c A ls C hW hl => k_Mo_gap_0 C x0 x1 x2 w hq s.heap [] 0 0 ls hW (by simpa [lv_args, bw_cat, cat_i, cat_j] using hl) (Nat.le_refl _) (Nat.le_refl _))
def wb_Mo_told_87 (e0 mi : Nat) (Q : Int32 → Wd → Prop) (x0 : Nat) (x1 : Int32) (x2 : Int32) (z0 : Int32) (w : Wd) : Prop :=
  Q z0 w
set_option maxHeartbeats 4000000 in
set_option maxRecDepth 100000 in
theorem k_Mo_told_87 {p : Program} {l : Launch} {e : Env} {s : State} {m : MethodId} {args : Array Value} {below : List Frame} {meth : Method} {c : Code} {D : va_G} {AC : Nat → ClassId} {e0 mi : Nat} {A : Nat → Prop} {mc ms : Nat} {Q : Int32 → Wd → Prop} (C : Cx p l s m args meth c D AC e0 mi A n_Mo_told b_Mo_told 3 (some .int)) (x0 : Nat) (x1 : Int32) (x2 : Int32) (z0 : Int32) (w : Wd) (hq : wb_Mo_told_87 e0 mi Q x0 x1 x2 z0 w) : ∀ (H : Heap) (locs : List Loc) (cells slots : Nat) (ls : Array Slot), HW D cls8 FTc AC A s.heap H locs w → lv_has ls 3 [(0, va_rf (some x0)), (1, .int x1), (2, .int x2)] → cells ≤ mc → slots ≤ ms → W p l e { frames := 2, cells := mc, slots := ms, locals := 43 } s m args below meth c H locs cells slots (vx_MQ below (QQ D AC A (fun v w9 => ∃ r9 : Int32, v = some (.int r9) ∧ Q r9 w9)) (XX D AC A (fun _ _ => False)) args s mc ms A) (F0 m 87 ls [.int z0]) := by
  obtain ⟨hl0, hx, hb, hr, ht, hown, hlocks, hnm, hml, hex, hK, hA, hZ, hV⟩ := id C
  intro H locs cells slots ls hW hl hc hs
  unfold wb_Mo_told_87 at hq
  exact bw_iret C hW ⟨_, rfl, hq⟩ d_Mo_told_87 hc hs
def wb_Mo_told_145 (e0 mi : Nat) (Q : Int32 → Wd → Prop) (x0 : Nat) (x1 : Int32) (x2 : Int32) (z0 : Int32) (w : Wd) : Prop :=
  Q z0 w
set_option maxHeartbeats 4000000 in
set_option maxRecDepth 100000 in
theorem k_Mo_told_145 {p : Program} {l : Launch} {e : Env} {s : State} {m : MethodId} {args : Array Value} {below : List Frame} {meth : Method} {c : Code} {D : va_G} {AC : Nat → ClassId} {e0 mi : Nat} {A : Nat → Prop} {mc ms : Nat} {Q : Int32 → Wd → Prop} (C : Cx p l s m args meth c D AC e0 mi A n_Mo_told b_Mo_told 3 (some .int)) (x0 : Nat) (x1 : Int32) (x2 : Int32) (z0 : Int32) (w : Wd) (hq : wb_Mo_told_145 e0 mi Q x0 x1 x2 z0 w) : ∀ (H : Heap) (locs : List Loc) (cells slots : Nat) (ls : Array Slot), HW D cls8 FTc AC A s.heap H locs w → lv_has ls 3 [(0, va_rf (some x0)), (1, .int x1), (2, .int x2)] → cells ≤ mc → slots ≤ ms → W p l e { frames := 2, cells := mc, slots := ms, locals := 43 } s m args below meth c H locs cells slots (vx_MQ below (QQ D AC A (fun v w9 => ∃ r9 : Int32, v = some (.int r9) ∧ Q r9 w9)) (XX D AC A (fun _ _ => False)) args s mc ms A) (F0 m 145 ls [.int z0]) := by
  obtain ⟨hl0, hx, hb, hr, ht, hown, hlocks, hnm, hml, hex, hK, hA, hZ, hV⟩ := id C
  intro H locs cells slots ls hW hl hc hs
  unfold wb_Mo_told_145 at hq
  exact bw_iret C hW ⟨_, rfl, hq⟩ d_Mo_told_145 hc hs
def wb_Mo_told_28 (e0 mi : Nat) (Q : Int32 → Wd → Prop) (x0 : Nat) (x1 : Int32) (x2 : Int32) (z0 : Option Nat) (z1 : Int32) (w : Wd) : Prop :=
  ∃ a1 : Nat, z0 = some a1 ∧ (bw_is w a1 6 ∧ (bw_is (sI w a1 0 z1) x0 6 ∧ (((wI (sI w a1 0 z1) x0 0) ≤ 0 → ((¬ x2 = 0 → ((¬ x2 = (1 : Int32) → ((¬ x2 = (2 : Int32) → ((¬ x2 = (3 : Int32) → ((¬ x2 = (4 : Int32) → ((¬ x2 = (5 : Int32) → (∃ a11 : Nat, (wR (sI w a1 0 z1) x0 20) = some a11 ∧ (bw_is (sI w a1 0 z1) a11 101 ∧ (vp_in x1 (wN (sI w a1 0 z1) a11) ∧ (wb_Mo_told_145 e0 mi Q x0 x1 x2 (wI (sI w a1 0 z1) a11 x1.toNatClampNeg) (sI w a1 0 z1)))))) ∧ (x2 = (5 : Int32) → (∃ a14 : Nat, (wR (sI w a1 0 z1) x0 13) = some a14 ∧ (bw_is (sI w a1 0 z1) a14 101 ∧ (vp_in x1 (wN (sI w a1 0 z1) a14) ∧ ((¬ (wI (sI w a1 0 z1) a14 x1.toNatClampNeg) = 0 → (wb_Mo_told_145 e0 mi Q x0 x1 x2 (-1 : Int32) (sI w a1 0 z1))) ∧ ((wI (sI w a1 0 z1) a14 x1.toNatClampNeg) = 0 → (∃ a18 : Nat, (wR (sI w a1 0 z1) x0 19) = some a18 ∧ (bw_is (sI w a1 0 z1) a18 101 ∧ (vp_in x1 (wN (sI w a1 0 z1) a18) ∧ (wb_Mo_told_145 e0 mi Q x0 x1 x2 (wI (sI w a1 0 z1) a18 x1.toNatClampNeg) (sI w a1 0 z1))))))))))))) ∧ (x2 = (4 : Int32) → (∃ a21 : Nat, (wR (sI w a1 0 z1) x0 17) = some a21 ∧ (bw_is (sI w a1 0 z1) a21 101 ∧ (vp_in x1 (wN (sI w a1 0 z1) a21) ∧ (Q (wI (sI w a1 0 z1) a21 x1.toNatClampNeg) (sI w a1 0 z1)))))))) ∧ (x2 = (3 : Int32) → (∃ a24 : Nat, (wR (sI w a1 0 z1) x0 16) = some a24 ∧ (bw_is (sI w a1 0 z1) a24 101 ∧ (vp_in x1 (wN (sI w a1 0 z1) a24) ∧ (Q (wI (sI w a1 0 z1) a24 x1.toNatClampNeg) (sI w a1 0 z1)))))))) ∧ (x2 = (2 : Int32) → (∃ a27 : Nat, (wR (sI w a1 0 z1) x0 13) = some a27 ∧ (bw_is (sI w a1 0 z1) a27 101 ∧ (vp_in x1 (wN (sI w a1 0 z1) a27) ∧ ((¬ (wI (sI w a1 0 z1) a27 x1.toNatClampNeg) = 0 → (wb_Mo_told_87 e0 mi Q x0 x1 x2 (-1 : Int32) (sI w a1 0 z1))) ∧ ((wI (sI w a1 0 z1) a27 x1.toNatClampNeg) = 0 → (∃ a31 : Nat, (wR (sI w a1 0 z1) x0 15) = some a31 ∧ (bw_is (sI w a1 0 z1) a31 101 ∧ (vp_in x1 (wN (sI w a1 0 z1) a31) ∧ (wb_Mo_told_87 e0 mi Q x0 x1 x2 (wI (sI w a1 0 z1) a31 x1.toNatClampNeg) (sI w a1 0 z1))))))))))))) ∧ (x2 = (1 : Int32) → (∃ a34 : Nat, (wR (sI w a1 0 z1) x0 14) = some a34 ∧ (bw_is (sI w a1 0 z1) a34 101 ∧ (vp_in x1 (wN (sI w a1 0 z1) a34) ∧ (Q (wI (sI w a1 0 z1) a34 x1.toNatClampNeg) (sI w a1 0 z1)))))))) ∧ (x2 = 0 → (∃ a37 : Nat, (wR (sI w a1 0 z1) x0 13) = some a37 ∧ (bw_is (sI w a1 0 z1) a37 101 ∧ (vp_in x1 (wN (sI w a1 0 z1) a37) ∧ (Q (wI (sI w a1 0 z1) a37 x1.toNatClampNeg) (sI w a1 0 z1)))))))) ∧ (¬ (wI (sI w a1 0 z1) x0 0) ≤ 0 → (Q (0 : Int32) (sI w a1 0 z1))))))
set_option maxHeartbeats 4000000 in
set_option maxRecDepth 100000 in
theorem k_Mo_told_28 {p : Program} {l : Launch} {e : Env} {s : State} {m : MethodId} {args : Array Value} {below : List Frame} {meth : Method} {c : Code} {D : va_G} {AC : Nat → ClassId} {e0 mi : Nat} {A : Nat → Prop} {mc ms : Nat} {Q : Int32 → Wd → Prop} (C : Cx p l s m args meth c D AC e0 mi A n_Mo_told b_Mo_told 3 (some .int)) (x0 : Nat) (x1 : Int32) (x2 : Int32) (z0 : Option Nat) (z1 : Int32) (w : Wd) (hq : wb_Mo_told_28 e0 mi Q x0 x1 x2 z0 z1 w) : ∀ (H : Heap) (locs : List Loc) (cells slots : Nat) (ls : Array Slot), HW D cls8 FTc AC A s.heap H locs w → lv_has ls 3 [(0, va_rf (some x0)), (1, .int x1), (2, .int x2)] → cells ≤ mc → slots ≤ ms → W p l e { frames := 2, cells := mc, slots := ms, locals := 43 } s m args below meth c H locs cells slots (vx_MQ below (QQ D AC A (fun v w9 => ∃ r9 : Int32, v = some (.int r9) ∧ Q r9 w9)) (XX D AC A (fun _ _ => False)) args s mc ms A) (F0 m 28 ls [.int z1, va_rf z0]) := by
  obtain ⟨hl0, hx, hb, hr, ht, hown, hlocks, hnm, hml, hex, hK, hA, hZ, hV⟩ := id C
  intro H locs cells slots ls hW hl hc hs
  unfold wb_Mo_told_28 at hq
  obtain ⟨a1, ea1, hq⟩ := hq
  obtain ⟨t2, hq⟩ := hq
  refine bw_putI hx hb ht in_Mo y_Mo yk_Mo nm_Mo hown hK hW ea1 t2 (by decide) rfl 0 (by decide) rfl (ht _ m_744) (fun _ h => h) (Or.inl rfl) rfl rfl d_Mo_told_28 (fun H locs hW => ?_)
  refine bw_aload_n hx hb d_Mo_told_31 rfl (lv_at hl 0 rfl) ?_
  obtain ⟨t3, hq⟩ := hq
  refine bw_getI hx hb ht in_Mo hown hK hW rfl t3 (by decide) rfl 0 (by decide) rfl (ht _ m_744) (fun _ h => h) d_Mo_told_32 ?_
  refine lv_if_le (tgt := 40) hx hb d_Mo_told_35 (by decide) (fun c4 => ?_) (fun c4 => ?_)
  · have hq := hq.1 c4
    refine lv_iload_n hx hb d_Mo_told_40 rfl (lv_at hl 2 rfl) ?_
    refine lv_if_ne (tgt := 51) hx hb d_Mo_told_41 (by decide) (fun c5 => ?_) (fun c5 => ?_)
    · have hq := hq.1 c5
      refine lv_iload_n hx hb d_Mo_told_51 rfl (lv_at hl 2 rfl) ?_
      refine lv_iconst (v := 1) hx hb d_Mo_told_52 (by decide) ?_
      refine lv_icmp_ne (tgt := 63) hx hb d_Mo_told_53 (by decide) (fun c6 => ?_) (fun c6 => ?_)
      · have hq := hq.1 c6
        refine lv_iload_n hx hb d_Mo_told_63 rfl (lv_at hl 2 rfl) ?_
        refine lv_iconst (v := 2) hx hb d_Mo_told_64 (by decide) ?_
        refine lv_icmp_ne (tgt := 88) hx hb d_Mo_told_65 (by decide) (fun c7 => ?_) (fun c7 => ?_)
        · have hq := hq.1 c7
          refine lv_iload_n hx hb d_Mo_told_88 rfl (lv_at hl 2 rfl) ?_
          refine lv_iconst (v := 3) hx hb d_Mo_told_89 (by decide) ?_
          refine lv_icmp_ne (tgt := 100) hx hb d_Mo_told_90 (by decide) (fun c8 => ?_) (fun c8 => ?_)
          · have hq := hq.1 c8
            refine lv_iload_n hx hb d_Mo_told_100 rfl (lv_at hl 2 rfl) ?_
            refine lv_iconst (v := 4) hx hb d_Mo_told_101 (by decide) ?_
            refine lv_icmp_ne (tgt := 112) hx hb d_Mo_told_102 (by decide) (fun c9 => ?_) (fun c9 => ?_)
            · have hq := hq.1 c9
              refine lv_iload_n hx hb d_Mo_told_112 rfl (lv_at hl 2 rfl) ?_
              refine lv_iconst (v := 5) hx hb d_Mo_told_113 (by decide) ?_
              refine lv_icmp_ne (tgt := 139) hx hb d_Mo_told_114 (by decide) (fun c10 => ?_) (fun c10 => ?_)
              · have hq := hq.1 c10
                refine bw_aload_n hx hb d_Mo_told_139 rfl (lv_at hl 0 rfl) ?_
                refine bw_getR hx hb ht in_Mo hown hK hW rfl t3 (by decide) rfl 20 (by decide) rfl (ht _ m_764) (fun _ h => h) d_Mo_told_140 ?_
                refine lv_iload_n hx hb d_Mo_told_143 rfl (lv_at hl 1 rfl) ?_
                obtain ⟨a11, ea11, hq⟩ := hq
                obtain ⟨t12, hq⟩ := hq
                obtain ⟨h13, hq⟩ := hq
                refine bw_iald C hW ea11 t12 h13 d_Mo_told_144 ?_
                exact k_Mo_told_145 C  _ _ _ _ _ hq _ _ _ _ _ hW (lv_sub hl [0, 1, 2] rfl) hc hs
              · have hq := hq.2 c10
                refine bw_aload_n hx hb d_Mo_told_117 rfl (lv_at hl 0 rfl) ?_
                refine bw_getR hx hb ht in_Mo hown hK hW rfl t3 (by decide) rfl 13 (by decide) rfl (ht _ m_757) (fun _ h => h) d_Mo_told_118 ?_
                refine lv_iload_n hx hb d_Mo_told_121 rfl (lv_at hl 1 rfl) ?_
                obtain ⟨a14, ea14, hq⟩ := hq
                obtain ⟨t15, hq⟩ := hq
                obtain ⟨h16, hq⟩ := hq
                refine bw_iald C hW ea14 t15 h16 d_Mo_told_122 ?_
                refine lv_if_ne (tgt := 135) hx hb d_Mo_told_123 (by decide) (fun c17 => ?_) (fun c17 => ?_)
                · have hq := hq.1 c17
                  refine lv_iconst (v := (-1)) hx hb d_Mo_told_135 (by decide) ?_
                  refine lv_goto (tgt := 145) hx hb d_Mo_told_136 (by decide) ?_
                  exact k_Mo_told_145 C  _ _ _ _ _ hq _ _ _ _ _ hW (lv_sub hl [0, 1, 2] rfl) hc hs
                · have hq := hq.2 c17
                  refine bw_aload_n hx hb d_Mo_told_126 rfl (lv_at hl 0 rfl) ?_
                  refine bw_getR hx hb ht in_Mo hown hK hW rfl t3 (by decide) rfl 19 (by decide) rfl (ht _ m_763) (fun _ h => h) d_Mo_told_127 ?_
                  refine lv_iload_n hx hb d_Mo_told_130 rfl (lv_at hl 1 rfl) ?_
                  obtain ⟨a18, ea18, hq⟩ := hq
                  obtain ⟨t19, hq⟩ := hq
                  obtain ⟨h20, hq⟩ := hq
                  refine bw_iald C hW ea18 t19 h20 d_Mo_told_131 ?_
                  refine lv_goto (tgt := 145) hx hb d_Mo_told_132 (by decide) ?_
                  exact k_Mo_told_145 C  _ _ _ _ _ hq _ _ _ _ _ hW (lv_sub hl [0, 1, 2] rfl) hc hs
            · have hq := hq.2 c9
              refine bw_aload_n hx hb d_Mo_told_105 rfl (lv_at hl 0 rfl) ?_
              refine bw_getR hx hb ht in_Mo hown hK hW rfl t3 (by decide) rfl 17 (by decide) rfl (ht _ m_761) (fun _ h => h) d_Mo_told_106 ?_
              refine lv_iload_n hx hb d_Mo_told_109 rfl (lv_at hl 1 rfl) ?_
              obtain ⟨a21, ea21, hq⟩ := hq
              obtain ⟨t22, hq⟩ := hq
              obtain ⟨h23, hq⟩ := hq
              refine bw_iald C hW ea21 t22 h23 d_Mo_told_110 ?_
              exact bw_iret C hW ⟨_, rfl, hq⟩ d_Mo_told_111 hc hs
          · have hq := hq.2 c8
            refine bw_aload_n hx hb d_Mo_told_93 rfl (lv_at hl 0 rfl) ?_
            refine bw_getR hx hb ht in_Mo hown hK hW rfl t3 (by decide) rfl 16 (by decide) rfl (ht _ m_760) (fun _ h => h) d_Mo_told_94 ?_
            refine lv_iload_n hx hb d_Mo_told_97 rfl (lv_at hl 1 rfl) ?_
            obtain ⟨a24, ea24, hq⟩ := hq
            obtain ⟨t25, hq⟩ := hq
            obtain ⟨h26, hq⟩ := hq
            refine bw_iald C hW ea24 t25 h26 d_Mo_told_98 ?_
            exact bw_iret C hW ⟨_, rfl, hq⟩ d_Mo_told_99 hc hs
        · have hq := hq.2 c7
          refine bw_aload_n hx hb d_Mo_told_68 rfl (lv_at hl 0 rfl) ?_
          refine bw_getR hx hb ht in_Mo hown hK hW rfl t3 (by decide) rfl 13 (by decide) rfl (ht _ m_757) (fun _ h => h) d_Mo_told_69 ?_
          refine lv_iload_n hx hb d_Mo_told_72 rfl (lv_at hl 1 rfl) ?_
          obtain ⟨a27, ea27, hq⟩ := hq
          obtain ⟨t28, hq⟩ := hq
          obtain ⟨h29, hq⟩ := hq
          refine bw_iald C hW ea27 t28 h29 d_Mo_told_73 ?_
          refine lv_if_ne (tgt := 86) hx hb d_Mo_told_74 (by decide) (fun c30 => ?_) (fun c30 => ?_)
          · have hq := hq.1 c30
            refine lv_iconst (v := (-1)) hx hb d_Mo_told_86 (by decide) ?_
            exact k_Mo_told_87 C  _ _ _ _ _ hq _ _ _ _ _ hW (lv_sub hl [0, 1, 2] rfl) hc hs
          · have hq := hq.2 c30
            refine bw_aload_n hx hb d_Mo_told_77 rfl (lv_at hl 0 rfl) ?_
            refine bw_getR hx hb ht in_Mo hown hK hW rfl t3 (by decide) rfl 15 (by decide) rfl (ht _ m_759) (fun _ h => h) d_Mo_told_78 ?_
            refine lv_iload_n hx hb d_Mo_told_81 rfl (lv_at hl 1 rfl) ?_
            obtain ⟨a31, ea31, hq⟩ := hq
            obtain ⟨t32, hq⟩ := hq
            obtain ⟨h33, hq⟩ := hq
            refine bw_iald C hW ea31 t32 h33 d_Mo_told_82 ?_
            refine lv_goto (tgt := 87) hx hb d_Mo_told_83 (by decide) ?_
            exact k_Mo_told_87 C  _ _ _ _ _ hq _ _ _ _ _ hW (lv_sub hl [0, 1, 2] rfl) hc hs
      · have hq := hq.2 c6
        refine bw_aload_n hx hb d_Mo_told_56 rfl (lv_at hl 0 rfl) ?_
        refine bw_getR hx hb ht in_Mo hown hK hW rfl t3 (by decide) rfl 14 (by decide) rfl (ht _ m_758) (fun _ h => h) d_Mo_told_57 ?_
        refine lv_iload_n hx hb d_Mo_told_60 rfl (lv_at hl 1 rfl) ?_
        obtain ⟨a34, ea34, hq⟩ := hq
        obtain ⟨t35, hq⟩ := hq
        obtain ⟨h36, hq⟩ := hq
        refine bw_iald C hW ea34 t35 h36 d_Mo_told_61 ?_
        exact bw_iret C hW ⟨_, rfl, hq⟩ d_Mo_told_62 hc hs
    · have hq := hq.2 c5
      refine bw_aload_n hx hb d_Mo_told_44 rfl (lv_at hl 0 rfl) ?_
      refine bw_getR hx hb ht in_Mo hown hK hW rfl t3 (by decide) rfl 13 (by decide) rfl (ht _ m_757) (fun _ h => h) d_Mo_told_45 ?_
      refine lv_iload_n hx hb d_Mo_told_48 rfl (lv_at hl 1 rfl) ?_
      obtain ⟨a37, ea37, hq⟩ := hq
      obtain ⟨t38, hq⟩ := hq
      obtain ⟨h39, hq⟩ := hq
      refine bw_iald C hW ea37 t38 h39 d_Mo_told_49 ?_
      exact bw_iret C hW ⟨_, rfl, hq⟩ d_Mo_told_50 hc hs
  · have hq := hq.2 c4
    refine lv_iconst (v := 0) hx hb d_Mo_told_38 (by decide) ?_
    exact bw_iret C hW ⟨_, rfl, hq⟩ d_Mo_told_39 hc hs
def wp_Mo_told (e0 mi : Nat) (x0 : Nat) (x1 : Int32) (x2 : Int32) (w : Wd) (Q : Int32 → Wd → Prop) : Prop :=
  bw_is w x0 6 ∧ (wp_Mo_isItem e0 mi x0 x1 w (fun i8 w3 => (¬ i8 = 0 → (wp_Mo_in e0 mi x2 (0 : Int32) (6 : Int32) w3 (fun i16 w11 => (¬ i16 = 0 → (wb_Mo_told_28 e0 mi Q x0 x1 x2 (some x0) (0 : Int32) w11)) ∧ (i16 = 0 → (wb_Mo_told_28 e0 mi Q x0 x1 x2 (some x0) (2 : Int32) w11))))) ∧ (i8 = 0 → (wb_Mo_told_28 e0 mi Q x0 x1 x2 (some x0) (1 : Int32) w3))))
set_option maxHeartbeats 4000000 in
set_option maxRecDepth 100000 in
theorem k_Mo_told_0 {p : Program} {l : Launch} {e : Env} {s : State} {m : MethodId} {args : Array Value} {below : List Frame} {meth : Method} {c : Code} {D : va_G} {AC : Nat → ClassId} {e0 mi : Nat} {A : Nat → Prop} {mc ms : Nat} {Q : Int32 → Wd → Prop} (C : Cx p l s m args meth c D AC e0 mi A n_Mo_told b_Mo_told 3 (some .int)) (x0 : Nat) (x1 : Int32) (x2 : Int32) (w : Wd) (hq : wp_Mo_told e0 mi x0 x1 x2 w Q) : ∀ (H : Heap) (locs : List Loc) (cells slots : Nat) (ls : Array Slot), HW D cls8 FTc AC A s.heap H locs w → lv_has ls 3 [(0, va_rf (some x0)), (1, .int x1), (2, .int x2)] → cells ≤ mc → slots ≤ ms → W p l e { frames := 2, cells := mc, slots := ms, locals := 43 } s m args below meth c H locs cells slots (vx_MQ below (QQ D AC A (fun v w9 => ∃ r9 : Int32, v = some (.int r9) ∧ Q r9 w9)) (XX D AC A (fun _ _ => False)) args s mc ms A) (F0 m 0 ls []) := by
  obtain ⟨hl0, hx, hb, hr, ht, hown, hlocks, hnm, hml, hex, hK, hA, hZ, hV⟩ := id C
  intro H locs cells slots ls hW hl hc hs
  unfold wp_Mo_told at hq
  refine bw_aload_n hx hb d_Mo_told_0 rfl (lv_at hl 0 rfl) ?_
  refine bw_aload_n hx hb d_Mo_told_1 rfl (lv_at hl 0 rfl) ?_
  refine lv_iload_n hx hb d_Mo_told_2 rfl (lv_at hl 1 rfl) ?_
  obtain ⟨t1, hq⟩ := hq
  refine bw_callV (As := [.int x1]) (rest := [va_rf (some x0)]) C hW ci_Mo_isItem m_895 m_897 sel_Mo_isItem d_Mo_told_3 rfl t1 (by decide) rfl rfl rfl hl.1 (by simp [bw_cat, cat_i, cat_j]) ⟨Nat.le_of_ble_eq_true rfl, Nat.le_of_ble_eq_true rfl⟩ ⟨hc, hs⟩ (c_Mo_isItem hl0 _ _ _ hq) (fun _ _ _ _ _ _ h => h.elim) (fun v2 w3 H locs hv hW => ?_)
  obtain ⟨i8, rfl, hq⟩ := hv
  refine W.eq (g2 := F0 m 6 ls [.int i8, va_rf (some x0)]) rfl ?_
  refine lv_if_ne (tgt := 13) hx hb d_Mo_told_6 (by decide) (fun c9 => ?_) (fun c9 => ?_)
  · have hq := hq.1 c9
    refine lv_iload_n hx hb d_Mo_told_13 rfl (lv_at hl 2 rfl) ?_
    refine lv_iconst (v := 0) hx hb d_Mo_told_14 (by decide) ?_
    refine lv_bipush (v := 6) hx hb d_Mo_told_15 (by decide) ?_
    refine bw_callS (As := [.int x2, .int (0 : Int32), .int (6 : Int32)]) (rest := [va_rf (some x0)]) C hW ci_Mo_in m_848 m_849 d_Mo_told_17 rfl rfl hl.1 (by simp [bw_cat, cat_i, cat_j]) ⟨Nat.le_of_ble_eq_true rfl, Nat.le_of_ble_eq_true rfl⟩ ⟨hc, hs⟩ (c_Mo_in hl0 _ _ _ _ hq) (fun _ _ _ _ _ _ h => h.elim) (fun v10 w11 H locs hv hW => ?_)
    obtain ⟨i16, rfl, hq⟩ := hv
    refine W.eq (g2 := F0 m 20 ls [.int i16, va_rf (some x0)]) rfl ?_
    refine lv_if_ne (tgt := 27) hx hb d_Mo_told_20 (by decide) (fun c17 => ?_) (fun c17 => ?_)
    · have hq := hq.1 c17
      refine lv_iconst (v := 0) hx hb d_Mo_told_27 (by decide) ?_
      exact k_Mo_told_28 C  _ _ _ _ _ _ hq _ _ _ _ _ hW (lv_sub hl [0, 1, 2] rfl) hc hs
    · have hq := hq.2 c17
      refine lv_iconst (v := 2) hx hb d_Mo_told_23 (by decide) ?_
      refine lv_goto (tgt := 28) hx hb d_Mo_told_24 (by decide) ?_
      exact k_Mo_told_28 C  _ _ _ _ _ _ hq _ _ _ _ _ hW (lv_sub hl [0, 1, 2] rfl) hc hs
  · have hq := hq.2 c9
    refine lv_iconst (v := 1) hx hb d_Mo_told_9 (by decide) ?_
    refine lv_goto (tgt := 28) hx hb d_Mo_told_10 (by decide) ?_
    exact k_Mo_told_28 C  _ _ _ _ _ _ hq _ _ _ _ _ hW (lv_sub hl [0, 1, 2] rfl) hc hs
theorem ci_Mo_told : CI n_Mo_told b_Mo_told 3 (some .int) 2 := ⟨m_960, m_5, by decide, by decide, by decide +kernel⟩
theorem c_Mo_told {l : Launch} {D : va_G} {AC : Nat → ClassId} {e0 mi : Nat} {Q : Int32 → Wd → Prop} (hl0 : l.stackTraces = false) (x0 : Nat) (x1 : Int32) (x2 : Int32) (w : Wd) (hq : wp_Mo_told e0 mi x0 x1 x2 w Q) : Ct l D AC e0 mi n_Mo_told (wy n_Mo_told b_Mo_told 3 (some .int)) 2 43 [va_rf (some x0), .int x1, .int x2] w 0 0 (fun v w9 => ∃ r9 : Int32, v = some (.int r9) ∧ Q r9 w9) (fun _ _ => False) :=
  Ct.of hl0 (by decide) (by simp [lg_sl, bw_cat, cat_i, cat_j]) (fun p e s m args below meth c A ls C hW hl => k_Mo_told_0 C x0 x1 x2 w hq s.heap [] 0 0 ls hW (by simpa [lv_args, bw_cat, cat_i, cat_j] using hl) (Nat.le_refl _) (Nat.le_refl _))
def wb_Mo_known_82 (e0 mi : Nat) (Q : Int32 → Wd → Prop) (x0 : Nat) (x1 : Int32) (x2 : Int32) (z0 : Int32) (w : Wd) : Prop :=
  Q z0 w
set_option maxHeartbeats 4000000 in
set_option maxRecDepth 100000 in
theorem k_Mo_known_82 {p : Program} {l : Launch} {e : Env} {s : State} {m : MethodId} {args : Array Value} {below : List Frame} {meth : Method} {c : Code} {D : va_G} {AC : Nat → ClassId} {e0 mi : Nat} {A : Nat → Prop} {mc ms : Nat} {Q : Int32 → Wd → Prop} (C : Cx p l s m args meth c D AC e0 mi A n_Mo_known b_Mo_known 3 (some .int)) (x0 : Nat) (x1 : Int32) (x2 : Int32) (z0 : Int32) (w : Wd) (hq : wb_Mo_known_82 e0 mi Q x0 x1 x2 z0 w) : ∀ (H : Heap) (locs : List Loc) (cells slots : Nat) (ls : Array Slot), HW D cls8 FTc AC A s.heap H locs w → lv_has ls 3 [(0, va_rf (some x0)), (1, .int x1), (2, .int x2)] → cells ≤ mc → slots ≤ ms → W p l e { frames := 2, cells := mc, slots := ms, locals := 43 } s m args below meth c H locs cells slots (vx_MQ below (QQ D AC A (fun v w9 => ∃ r9 : Int32, v = some (.int r9) ∧ Q r9 w9)) (XX D AC A (fun _ _ => False)) args s mc ms A) (F0 m 82 ls [.int z0]) := by
  obtain ⟨hl0, hx, hb, hr, ht, hown, hlocks, hnm, hml, hex, hK, hA, hZ, hV⟩ := id C
  intro H locs cells slots ls hW hl hc hs
  unfold wb_Mo_known_82 at hq
  exact bw_iret C hW ⟨_, rfl, hq⟩ d_Mo_known_82 hc hs
def wb_Mo_known_122 (e0 mi : Nat) (Q : Int32 → Wd → Prop) (x0 : Nat) (x1 : Int32) (x2 : Int32) (z0 : Int32) (w : Wd) : Prop :=
  Q z0 w
set_option maxHeartbeats 4000000 in
set_option maxRecDepth 100000 in
theorem k_Mo_known_122 {p : Program} {l : Launch} {e : Env} {s : State} {m : MethodId} {args : Array Value} {below : List Frame} {meth : Method} {c : Code} {D : va_G} {AC : Nat → ClassId} {e0 mi : Nat} {A : Nat → Prop} {mc ms : Nat} {Q : Int32 → Wd → Prop} (C : Cx p l s m args meth c D AC e0 mi A n_Mo_known b_Mo_known 3 (some .int)) (x0 : Nat) (x1 : Int32) (x2 : Int32) (z0 : Int32) (w : Wd) (hq : wb_Mo_known_122 e0 mi Q x0 x1 x2 z0 w) : ∀ (H : Heap) (locs : List Loc) (cells slots : Nat) (ls : Array Slot), HW D cls8 FTc AC A s.heap H locs w → lv_has ls 3 [(0, va_rf (some x0)), (1, .int x1), (2, .int x2)] → cells ≤ mc → slots ≤ ms → W p l e { frames := 2, cells := mc, slots := ms, locals := 43 } s m args below meth c H locs cells slots (vx_MQ below (QQ D AC A (fun v w9 => ∃ r9 : Int32, v = some (.int r9) ∧ Q r9 w9)) (XX D AC A (fun _ _ => False)) args s mc ms A) (F0 m 122 ls [.int z0]) := by
  obtain ⟨hl0, hx, hb, hr, ht, hown, hlocks, hnm, hml, hex, hK, hA, hZ, hV⟩ := id C
  intro H locs cells slots ls hW hl hc hs
  unfold wb_Mo_known_122 at hq
  exact bw_iret C hW ⟨_, rfl, hq⟩ d_Mo_known_122 hc hs
def wb_Mo_known_157 (e0 mi : Nat) (Q : Int32 → Wd → Prop) (x0 : Nat) (x1 : Int32) (x2 : Int32) (z0 : Int32) (w : Wd) : Prop :=
  Q z0 w
set_option maxHeartbeats 4000000 in
set_option maxRecDepth 100000 in
theorem k_Mo_known_157 {p : Program} {l : Launch} {e : Env} {s : State} {m : MethodId} {args : Array Value} {below : List Frame} {meth : Method} {c : Code} {D : va_G} {AC : Nat → ClassId} {e0 mi : Nat} {A : Nat → Prop} {mc ms : Nat} {Q : Int32 → Wd → Prop} (C : Cx p l s m args meth c D AC e0 mi A n_Mo_known b_Mo_known 3 (some .int)) (x0 : Nat) (x1 : Int32) (x2 : Int32) (z0 : Int32) (w : Wd) (hq : wb_Mo_known_157 e0 mi Q x0 x1 x2 z0 w) : ∀ (H : Heap) (locs : List Loc) (cells slots : Nat) (ls : Array Slot), HW D cls8 FTc AC A s.heap H locs w → lv_has ls 3 [(0, va_rf (some x0)), (1, .int x1), (2, .int x2)] → cells ≤ mc → slots ≤ ms → W p l e { frames := 2, cells := mc, slots := ms, locals := 43 } s m args below meth c H locs cells slots (vx_MQ below (QQ D AC A (fun v w9 => ∃ r9 : Int32, v = some (.int r9) ∧ Q r9 w9)) (XX D AC A (fun _ _ => False)) args s mc ms A) (F0 m 157 ls [.int z0]) := by
  obtain ⟨hl0, hx, hb, hr, ht, hown, hlocks, hnm, hml, hex, hK, hA, hZ, hV⟩ := id C
  intro H locs cells slots ls hW hl hc hs
  unfold wb_Mo_known_157 at hq
  exact bw_iret C hW ⟨_, rfl, hq⟩ d_Mo_known_157 hc hs
def wb_Mo_known_28 (e0 mi : Nat) (Q : Int32 → Wd → Prop) (x0 : Nat) (x1 : Int32) (x2 : Int32) (z0 : Option Nat) (z1 : Int32) (w : Wd) : Prop :=
  ∃ a1 : Nat, z0 = some a1 ∧ (bw_is w a1 6 ∧ (bw_is (sI w a1 0 z1) x0 6 ∧ (((wI (sI w a1 0 z1) x0 0) ≤ 0 → ((¬ x2 = 0 → ((¬ x2 = (1 : Int32) → ((¬ x2 = (2 : Int32) → ((¬ x2 = (3 : Int32) → ((¬ x2 = (4 : Int32) → (((7 : Int32) ≤ x2 → (∃ a11 : Nat, (wR (sI w a1 0 z1) x0 9) = some a11 ∧ (bw_is (sI w a1 0 z1) a11 101 ∧ (vp_in ((((2 : Int32) * x1) + x2) - (7 : Int32)) (wN (sI w a1 0 z1) a11) ∧ (wb_Mo_known_157 e0 mi Q x0 x1 x2 (wI (sI w a1 0 z1) a11 ((((2 : Int32) * x1) + x2) - (7 : Int32)).toNatClampNeg) (sI w a1 0 z1)))))) ∧ (¬ (7 : Int32) ≤ x2 → (∃ a14 : Nat, (wR (sI w a1 0 z1) x0 7) = some a14 ∧ (bw_is (sI w a1 0 z1) a14 101 ∧ (vp_in ((((2 : Int32) * x1) + x2) - (5 : Int32)) (wN (sI w a1 0 z1) a14) ∧ (wb_Mo_known_157 e0 mi Q x0 x1 x2 (wI (sI w a1 0 z1) a14 ((((2 : Int32) * x1) + x2) - (5 : Int32)).toNatClampNeg) (sI w a1 0 z1)))))))) ∧ (x2 = (4 : Int32) → (∃ a17 : Nat, (wR (sI w a1 0 z1) x0 10) = some a17 ∧ (bw_is (sI w a1 0 z1) a17 101 ∧ (vp_in x1 (wN (sI w a1 0 z1) a17) ∧ ((¬ (wI (sI w a1 0 z1) a17 x1.toNatClampNeg) = 0 → (∃ a21 : Nat, (wR (sI w a1 0 z1) x0 11) = some a21 ∧ (bw_is (sI w a1 0 z1) a21 101 ∧ (vp_in ((60 : Int32) * x1) (wN (sI w a1 0 z1) a21) ∧ (wb_Mo_known_122 e0 mi Q x0 x1 x2 (wI (sI w a1 0 z1) a21 ((60 : Int32) * x1).toNatClampNeg) (sI w a1 0 z1)))))) ∧ ((wI (sI w a1 0 z1) a17 x1.toNatClampNeg) = 0 → (wb_Mo_known_122 e0 mi Q x0 x1 x2 (-1 : Int32) (sI w a1 0 z1)))))))))) ∧ (x2 = (3 : Int32) → (∃ a24 : Nat, (wR (sI w a1 0 z1) x0 10) = some a24 ∧ (bw_is (sI w a1 0 z1) a24 101 ∧ (vp_in x1 (wN (sI w a1 0 z1) a24) ∧ (Q (wI (sI w a1 0 z1) a24 x1.toNatClampNeg) (sI w a1 0 z1)))))))) ∧ (x2 = (2 : Int32) → (∃ a27 : Nat, (wR (sI w a1 0 z1) x0 6) = some a27 ∧ (bw_is (sI w a1 0 z1) a27 103 ∧ (vp_in x1 (wN (sI w a1 0 z1) a27) ∧ (((wI (sI w a1 0 z1) a27 x1.toNatClampNeg) = 0 → (wb_Mo_known_82 e0 mi Q x0 x1 x2 (0 : Int32) (sI w a1 0 z1))) ∧ (¬ (wI (sI w a1 0 z1) a27 x1.toNatClampNeg) = 0 → (wb_Mo_known_82 e0 mi Q x0 x1 x2 (1 : Int32) (sI w a1 0 z1)))))))))) ∧ (x2 = (1 : Int32) → (∃ a31 : Nat, (wR (sI w a1 0 z1) x0 5) = some a31 ∧ (bw_is (sI w a1 0 z1) a31 101 ∧ (vp_in x1 (wN (sI w a1 0 z1) a31) ∧ (Q (wI (sI w a1 0 z1) a31 x1.toNatClampNeg) (sI w a1 0 z1)))))))) ∧ (x2 = 0 → (∃ a34 : Nat, (wR (sI w a1 0 z1) x0 4) = some a34 ∧ (bw_is (sI w a1 0 z1) a34 101 ∧ (vp_in x1 (wN (sI w a1 0 z1) a34) ∧ (Q (wI (sI w a1 0 z1) a34 x1.toNatClampNeg) (sI w a1 0 z1)))))))) ∧ (¬ (wI (sI w a1 0 z1) x0 0) ≤ 0 → (Q (0 : Int32) (sI w a1 0 z1))))))
set_option maxHeartbeats 4000000 in
set_option maxRecDepth 100000 in
theorem k_Mo_known_28 {p : Program} {l : Launch} {e : Env} {s : State} {m : MethodId} {args : Array Value} {below : List Frame} {meth : Method} {c : Code} {D : va_G} {AC : Nat → ClassId} {e0 mi : Nat} {A : Nat → Prop} {mc ms : Nat} {Q : Int32 → Wd → Prop} (C : Cx p l s m args meth c D AC e0 mi A n_Mo_known b_Mo_known 3 (some .int)) (x0 : Nat) (x1 : Int32) (x2 : Int32) (z0 : Option Nat) (z1 : Int32) (w : Wd) (hq : wb_Mo_known_28 e0 mi Q x0 x1 x2 z0 z1 w) : ∀ (H : Heap) (locs : List Loc) (cells slots : Nat) (ls : Array Slot), HW D cls8 FTc AC A s.heap H locs w → lv_has ls 3 [(0, va_rf (some x0)), (1, .int x1), (2, .int x2)] → cells ≤ mc → slots ≤ ms → W p l e { frames := 2, cells := mc, slots := ms, locals := 43 } s m args below meth c H locs cells slots (vx_MQ below (QQ D AC A (fun v w9 => ∃ r9 : Int32, v = some (.int r9) ∧ Q r9 w9)) (XX D AC A (fun _ _ => False)) args s mc ms A) (F0 m 28 ls [.int z1, va_rf z0]) := by
  obtain ⟨hl0, hx, hb, hr, ht, hown, hlocks, hnm, hml, hex, hK, hA, hZ, hV⟩ := id C
  intro H locs cells slots ls hW hl hc hs
  unfold wb_Mo_known_28 at hq
  obtain ⟨a1, ea1, hq⟩ := hq
  obtain ⟨t2, hq⟩ := hq
  refine bw_putI hx hb ht in_Mo y_Mo yk_Mo nm_Mo hown hK hW ea1 t2 (by decide) rfl 0 (by decide) rfl (ht _ m_744) (fun _ h => h) (Or.inl rfl) rfl rfl d_Mo_known_28 (fun H locs hW => ?_)
  refine bw_aload_n hx hb d_Mo_known_31 rfl (lv_at hl 0 rfl) ?_
  obtain ⟨t3, hq⟩ := hq
  refine bw_getI hx hb ht in_Mo hown hK hW rfl t3 (by decide) rfl 0 (by decide) rfl (ht _ m_744) (fun _ h => h) d_Mo_known_32 ?_
  refine lv_if_le (tgt := 40) hx hb d_Mo_known_35 (by decide) (fun c4 => ?_) (fun c4 => ?_)
  · have hq := hq.1 c4
    refine lv_iload_n hx hb d_Mo_known_40 rfl (lv_at hl 2 rfl) ?_
    refine lv_if_ne (tgt := 51) hx hb d_Mo_known_41 (by decide) (fun c5 => ?_) (fun c5 => ?_)
    · have hq := hq.1 c5
      refine lv_iload_n hx hb d_Mo_known_51 rfl (lv_at hl 2 rfl) ?_
      refine lv_iconst (v := 1) hx hb d_Mo_known_52 (by decide) ?_
      refine lv_icmp_ne (tgt := 63) hx hb d_Mo_known_53 (by decide) (fun c6 => ?_) (fun c6 => ?_)
      · have hq := hq.1 c6
        refine lv_iload_n hx hb d_Mo_known_63 rfl (lv_at hl 2 rfl) ?_
        refine lv_iconst (v := 2) hx hb d_Mo_known_64 (by decide) ?_
        refine lv_icmp_ne (tgt := 83) hx hb d_Mo_known_65 (by decide) (fun c7 => ?_) (fun c7 => ?_)
        · have hq := hq.1 c7
          refine lv_iload_n hx hb d_Mo_known_83 rfl (lv_at hl 2 rfl) ?_
          refine lv_iconst (v := 3) hx hb d_Mo_known_84 (by decide) ?_
          refine lv_icmp_ne (tgt := 95) hx hb d_Mo_known_85 (by decide) (fun c8 => ?_) (fun c8 => ?_)
          · have hq := hq.1 c8
            refine lv_iload_n hx hb d_Mo_known_95 rfl (lv_at hl 2 rfl) ?_
            refine lv_iconst (v := 4) hx hb d_Mo_known_96 (by decide) ?_
            refine lv_icmp_ne (tgt := 123) hx hb d_Mo_known_97 (by decide) (fun c9 => ?_) (fun c9 => ?_)
            · have hq := hq.1 c9
              refine lv_iload_n hx hb d_Mo_known_123 rfl (lv_at hl 2 rfl) ?_
              refine lv_bipush (v := 7) hx hb d_Mo_known_124 (by decide) ?_
              refine lv_icmp_ge (tgt := 144) hx hb d_Mo_known_126 (by decide) (fun c10 => ?_) (fun c10 => ?_)
              · have hq := hq.1 c10
                refine bw_aload_n hx hb d_Mo_known_144 rfl (lv_at hl 0 rfl) ?_
                refine bw_getR hx hb ht in_Mo hown hK hW rfl t3 (by decide) rfl 9 (by decide) rfl (ht _ m_753) (fun _ h => h) d_Mo_known_145 ?_
                refine lv_iconst (v := 2) hx hb d_Mo_known_148 (by decide) ?_
                refine lv_iload_n hx hb d_Mo_known_149 rfl (lv_at hl 1 rfl) ?_
                refine lv_imul hx hb d_Mo_known_150 ?_
                refine lv_iload_n hx hb d_Mo_known_151 rfl (lv_at hl 2 rfl) ?_
                refine lv_iadd hx hb d_Mo_known_152 ?_
                refine lv_bipush (v := 7) hx hb d_Mo_known_153 (by decide) ?_
                refine lv_isub hx hb d_Mo_known_155 ?_
                obtain ⟨a11, ea11, hq⟩ := hq
                obtain ⟨t12, hq⟩ := hq
                obtain ⟨h13, hq⟩ := hq
                refine bw_iald C hW ea11 t12 h13 d_Mo_known_156 ?_
                exact k_Mo_known_157 C  _ _ _ _ _ hq _ _ _ _ _ hW (lv_sub hl [0, 1, 2] rfl) hc hs
              · have hq := hq.2 c10
                refine bw_aload_n hx hb d_Mo_known_129 rfl (lv_at hl 0 rfl) ?_
                refine bw_getR hx hb ht in_Mo hown hK hW rfl t3 (by decide) rfl 7 (by decide) rfl (ht _ m_751) (fun _ h => h) d_Mo_known_130 ?_
                refine lv_iconst (v := 2) hx hb d_Mo_known_133 (by decide) ?_
                refine lv_iload_n hx hb d_Mo_known_134 rfl (lv_at hl 1 rfl) ?_
                refine lv_imul hx hb d_Mo_known_135 ?_
                refine lv_iload_n hx hb d_Mo_known_136 rfl (lv_at hl 2 rfl) ?_
                refine lv_iadd hx hb d_Mo_known_137 ?_
                refine lv_iconst (v := 5) hx hb d_Mo_known_138 (by decide) ?_
                refine lv_isub hx hb d_Mo_known_139 ?_
                obtain ⟨a14, ea14, hq⟩ := hq
                obtain ⟨t15, hq⟩ := hq
                obtain ⟨h16, hq⟩ := hq
                refine bw_iald C hW ea14 t15 h16 d_Mo_known_140 ?_
                refine lv_goto (tgt := 157) hx hb d_Mo_known_141 (by decide) ?_
                exact k_Mo_known_157 C  _ _ _ _ _ hq _ _ _ _ _ hW (lv_sub hl [0, 1, 2] rfl) hc hs
            · have hq := hq.2 c9
              refine bw_aload_n hx hb d_Mo_known_100 rfl (lv_at hl 0 rfl) ?_
              refine bw_getR hx hb ht in_Mo hown hK hW rfl t3 (by decide) rfl 10 (by decide) rfl (ht _ m_754) (fun _ h => h) d_Mo_known_101 ?_
              refine lv_iload_n hx hb d_Mo_known_104 rfl (lv_at hl 1 rfl) ?_
              obtain ⟨a17, ea17, hq⟩ := hq
              obtain ⟨t18, hq⟩ := hq
              obtain ⟨h19, hq⟩ := hq
              refine bw_iald C hW ea17 t18 h19 d_Mo_known_105 ?_
              refine lv_if_ne (tgt := 113) hx hb d_Mo_known_106 (by decide) (fun c20 => ?_) (fun c20 => ?_)
              · have hq := hq.1 c20
                refine bw_aload_n hx hb d_Mo_known_113 rfl (lv_at hl 0 rfl) ?_
                refine bw_getR hx hb ht in_Mo hown hK hW rfl t3 (by decide) rfl 11 (by decide) rfl (ht _ m_755) (fun _ h => h) d_Mo_known_114 ?_
                refine lv_bipush (v := 60) hx hb d_Mo_known_117 (by decide) ?_
                refine lv_iload_n hx hb d_Mo_known_119 rfl (lv_at hl 1 rfl) ?_
                refine lv_imul hx hb d_Mo_known_120 ?_
                obtain ⟨a21, ea21, hq⟩ := hq
                obtain ⟨t22, hq⟩ := hq
                obtain ⟨h23, hq⟩ := hq
                refine bw_iald C hW ea21 t22 h23 d_Mo_known_121 ?_
                exact k_Mo_known_122 C  _ _ _ _ _ hq _ _ _ _ _ hW (lv_sub hl [0, 1, 2] rfl) hc hs
              · have hq := hq.2 c20
                refine lv_iconst (v := (-1)) hx hb d_Mo_known_109 (by decide) ?_
                refine lv_goto (tgt := 122) hx hb d_Mo_known_110 (by decide) ?_
                exact k_Mo_known_122 C  _ _ _ _ _ hq _ _ _ _ _ hW (lv_sub hl [0, 1, 2] rfl) hc hs
          · have hq := hq.2 c8
            refine bw_aload_n hx hb d_Mo_known_88 rfl (lv_at hl 0 rfl) ?_
            refine bw_getR hx hb ht in_Mo hown hK hW rfl t3 (by decide) rfl 10 (by decide) rfl (ht _ m_754) (fun _ h => h) d_Mo_known_89 ?_
            refine lv_iload_n hx hb d_Mo_known_92 rfl (lv_at hl 1 rfl) ?_
            obtain ⟨a24, ea24, hq⟩ := hq
            obtain ⟨t25, hq⟩ := hq
            obtain ⟨h26, hq⟩ := hq
            refine bw_iald C hW ea24 t25 h26 d_Mo_known_93 ?_
            exact bw_iret C hW ⟨_, rfl, hq⟩ d_Mo_known_94 hc hs
        · have hq := hq.2 c7
          refine bw_aload_n hx hb d_Mo_known_68 rfl (lv_at hl 0 rfl) ?_
          refine bw_getR hx hb ht in_Mo hown hK hW rfl t3 (by decide) rfl 6 (by decide) rfl (ht _ m_750) (fun _ h => h) d_Mo_known_69 ?_
          refine lv_iload_n hx hb d_Mo_known_72 rfl (lv_at hl 1 rfl) ?_
          obtain ⟨a27, ea27, hq⟩ := hq
          obtain ⟨t28, hq⟩ := hq
          obtain ⟨h29, hq⟩ := hq
          refine bw_zald C hW ea27 t28 h29 d_Mo_known_73 ?_
          refine lv_if_eq (tgt := 81) hx hb d_Mo_known_74 (by decide) (fun c30 => ?_) (fun c30 => ?_)
          · have hq := hq.1 c30
            refine lv_iconst (v := 0) hx hb d_Mo_known_81 (by decide) ?_
            exact k_Mo_known_82 C  _ _ _ _ _ hq _ _ _ _ _ hW (lv_sub hl [0, 1, 2] rfl) hc hs
          · have hq := hq.2 c30
            refine lv_iconst (v := 1) hx hb d_Mo_known_77 (by decide) ?_
            refine lv_goto (tgt := 82) hx hb d_Mo_known_78 (by decide) ?_
            exact k_Mo_known_82 C  _ _ _ _ _ hq _ _ _ _ _ hW (lv_sub hl [0, 1, 2] rfl) hc hs
      · have hq := hq.2 c6
        refine bw_aload_n hx hb d_Mo_known_56 rfl (lv_at hl 0 rfl) ?_
        refine bw_getR hx hb ht in_Mo hown hK hW rfl t3 (by decide) rfl 5 (by decide) rfl (ht _ m_749) (fun _ h => h) d_Mo_known_57 ?_
        refine lv_iload_n hx hb d_Mo_known_60 rfl (lv_at hl 1 rfl) ?_
        obtain ⟨a31, ea31, hq⟩ := hq
        obtain ⟨t32, hq⟩ := hq
        obtain ⟨h33, hq⟩ := hq
        refine bw_iald C hW ea31 t32 h33 d_Mo_known_61 ?_
        exact bw_iret C hW ⟨_, rfl, hq⟩ d_Mo_known_62 hc hs
    · have hq := hq.2 c5
      refine bw_aload_n hx hb d_Mo_known_44 rfl (lv_at hl 0 rfl) ?_
      refine bw_getR hx hb ht in_Mo hown hK hW rfl t3 (by decide) rfl 4 (by decide) rfl (ht _ m_748) (fun _ h => h) d_Mo_known_45 ?_
      refine lv_iload_n hx hb d_Mo_known_48 rfl (lv_at hl 1 rfl) ?_
      obtain ⟨a34, ea34, hq⟩ := hq
      obtain ⟨t35, hq⟩ := hq
      obtain ⟨h36, hq⟩ := hq
      refine bw_iald C hW ea34 t35 h36 d_Mo_known_49 ?_
      exact bw_iret C hW ⟨_, rfl, hq⟩ d_Mo_known_50 hc hs
  · have hq := hq.2 c4
    refine lv_iconst (v := 0) hx hb d_Mo_known_38 (by decide) ?_
    exact bw_iret C hW ⟨_, rfl, hq⟩ d_Mo_known_39 hc hs
def wp_Mo_known (e0 mi : Nat) (x0 : Nat) (x1 : Int32) (x2 : Int32) (w : Wd) (Q : Int32 → Wd → Prop) : Prop :=
  bw_is w x0 6 ∧ (wp_Mo_isBelt e0 mi x0 x1 w (fun i8 w3 => (¬ i8 = 0 → (wp_Mo_in e0 mi x2 (0 : Int32) (8 : Int32) w3 (fun i16 w11 => (¬ i16 = 0 → (wb_Mo_known_28 e0 mi Q x0 x1 x2 (some x0) (0 : Int32) w11)) ∧ (i16 = 0 → (wb_Mo_known_28 e0 mi Q x0 x1 x2 (some x0) (2 : Int32) w11))))) ∧ (i8 = 0 → (wb_Mo_known_28 e0 mi Q x0 x1 x2 (some x0) (1 : Int32) w3))))
set_option maxHeartbeats 4000000 in
set_option maxRecDepth 100000 in
theorem k_Mo_known_0 {p : Program} {l : Launch} {e : Env} {s : State} {m : MethodId} {args : Array Value} {below : List Frame} {meth : Method} {c : Code} {D : va_G} {AC : Nat → ClassId} {e0 mi : Nat} {A : Nat → Prop} {mc ms : Nat} {Q : Int32 → Wd → Prop} (C : Cx p l s m args meth c D AC e0 mi A n_Mo_known b_Mo_known 3 (some .int)) (x0 : Nat) (x1 : Int32) (x2 : Int32) (w : Wd) (hq : wp_Mo_known e0 mi x0 x1 x2 w Q) : ∀ (H : Heap) (locs : List Loc) (cells slots : Nat) (ls : Array Slot), HW D cls8 FTc AC A s.heap H locs w → lv_has ls 3 [(0, va_rf (some x0)), (1, .int x1), (2, .int x2)] → cells ≤ mc → slots ≤ ms → W p l e { frames := 2, cells := mc, slots := ms, locals := 43 } s m args below meth c H locs cells slots (vx_MQ below (QQ D AC A (fun v w9 => ∃ r9 : Int32, v = some (.int r9) ∧ Q r9 w9)) (XX D AC A (fun _ _ => False)) args s mc ms A) (F0 m 0 ls []) := by
  obtain ⟨hl0, hx, hb, hr, ht, hown, hlocks, hnm, hml, hex, hK, hA, hZ, hV⟩ := id C
  intro H locs cells slots ls hW hl hc hs
  unfold wp_Mo_known at hq
  refine bw_aload_n hx hb d_Mo_known_0 rfl (lv_at hl 0 rfl) ?_
  refine bw_aload_n hx hb d_Mo_known_1 rfl (lv_at hl 0 rfl) ?_
  refine lv_iload_n hx hb d_Mo_known_2 rfl (lv_at hl 1 rfl) ?_
  obtain ⟨t1, hq⟩ := hq
  refine bw_callV (As := [.int x1]) (rest := [va_rf (some x0)]) C hW ci_Mo_isBelt m_855 m_857 sel_Mo_isBelt d_Mo_known_3 rfl t1 (by decide) rfl rfl rfl hl.1 (by simp [bw_cat, cat_i, cat_j]) ⟨Nat.le_of_ble_eq_true rfl, Nat.le_of_ble_eq_true rfl⟩ ⟨hc, hs⟩ (c_Mo_isBelt hl0 _ _ _ hq) (fun _ _ _ _ _ _ h => h.elim) (fun v2 w3 H locs hv hW => ?_)
  obtain ⟨i8, rfl, hq⟩ := hv
  refine W.eq (g2 := F0 m 6 ls [.int i8, va_rf (some x0)]) rfl ?_
  refine lv_if_ne (tgt := 13) hx hb d_Mo_known_6 (by decide) (fun c9 => ?_) (fun c9 => ?_)
  · have hq := hq.1 c9
    refine lv_iload_n hx hb d_Mo_known_13 rfl (lv_at hl 2 rfl) ?_
    refine lv_iconst (v := 0) hx hb d_Mo_known_14 (by decide) ?_
    refine lv_bipush (v := 8) hx hb d_Mo_known_15 (by decide) ?_
    refine bw_callS (As := [.int x2, .int (0 : Int32), .int (8 : Int32)]) (rest := [va_rf (some x0)]) C hW ci_Mo_in m_848 m_849 d_Mo_known_17 rfl rfl hl.1 (by simp [bw_cat, cat_i, cat_j]) ⟨Nat.le_of_ble_eq_true rfl, Nat.le_of_ble_eq_true rfl⟩ ⟨hc, hs⟩ (c_Mo_in hl0 _ _ _ _ hq) (fun _ _ _ _ _ _ h => h.elim) (fun v10 w11 H locs hv hW => ?_)
    obtain ⟨i16, rfl, hq⟩ := hv
    refine W.eq (g2 := F0 m 20 ls [.int i16, va_rf (some x0)]) rfl ?_
    refine lv_if_ne (tgt := 27) hx hb d_Mo_known_20 (by decide) (fun c17 => ?_) (fun c17 => ?_)
    · have hq := hq.1 c17
      refine lv_iconst (v := 0) hx hb d_Mo_known_27 (by decide) ?_
      exact k_Mo_known_28 C  _ _ _ _ _ _ hq _ _ _ _ _ hW (lv_sub hl [0, 1, 2] rfl) hc hs
    · have hq := hq.2 c17
      refine lv_iconst (v := 2) hx hb d_Mo_known_23 (by decide) ?_
      refine lv_goto (tgt := 28) hx hb d_Mo_known_24 (by decide) ?_
      exact k_Mo_known_28 C  _ _ _ _ _ _ hq _ _ _ _ _ hW (lv_sub hl [0, 1, 2] rfl) hc hs
  · have hq := hq.2 c9
    refine lv_iconst (v := 1) hx hb d_Mo_known_9 (by decide) ?_
    refine lv_goto (tgt := 28) hx hb d_Mo_known_10 (by decide) ?_
    exact k_Mo_known_28 C  _ _ _ _ _ _ hq _ _ _ _ _ hW (lv_sub hl [0, 1, 2] rfl) hc hs
theorem ci_Mo_known : CI n_Mo_known b_Mo_known 3 (some .int) 2 := ⟨m_964, m_5, by decide, by decide, by decide +kernel⟩
theorem c_Mo_known {l : Launch} {D : va_G} {AC : Nat → ClassId} {e0 mi : Nat} {Q : Int32 → Wd → Prop} (hl0 : l.stackTraces = false) (x0 : Nat) (x1 : Int32) (x2 : Int32) (w : Wd) (hq : wp_Mo_known e0 mi x0 x1 x2 w Q) : Ct l D AC e0 mi n_Mo_known (wy n_Mo_known b_Mo_known 3 (some .int)) 2 43 [va_rf (some x0), .int x1, .int x2] w 0 0 (fun v w9 => ∃ r9 : Int32, v = some (.int r9) ∧ Q r9 w9) (fun _ _ => False) :=
  Ct.of hl0 (by decide) (by simp [lg_sl, bw_cat, cat_i, cat_j]) (fun p e s m args below meth c A ls C hW hl => k_Mo_known_0 C x0 x1 x2 w hq s.heap [] 0 0 ls hW (by simpa [lv_args, bw_cat, cat_i, cat_j] using hl) (Nat.le_refl _) (Nat.le_refl _))
def wb_Mo_order_40 (e0 mi : Nat) (Q : Int32 → Wd → Prop) (x0 : Nat) (x1 : Int32) (z0 : Int32) (w : Wd) : Prop :=
  Q z0 w
set_option maxHeartbeats 4000000 in
set_option maxRecDepth 100000 in
theorem k_Mo_order_40 {p : Program} {l : Launch} {e : Env} {s : State} {m : MethodId} {args : Array Value} {below : List Frame} {meth : Method} {c : Code} {D : va_G} {AC : Nat → ClassId} {e0 mi : Nat} {A : Nat → Prop} {mc ms : Nat} {Q : Int32 → Wd → Prop} (C : Cx p l s m args meth c D AC e0 mi A n_Mo_order b_Mo_order 2 (some .int)) (x0 : Nat) (x1 : Int32) (z0 : Int32) (w : Wd) (hq : wb_Mo_order_40 e0 mi Q x0 x1 z0 w) : ∀ (H : Heap) (locs : List Loc) (cells slots : Nat) (ls : Array Slot), HW D cls8 FTc AC A s.heap H locs w → lv_has ls 2 [(0, va_rf (some x0)), (1, .int x1)] → cells ≤ mc → slots ≤ ms → W p l e { frames := 1, cells := mc, slots := ms, locals := 22 } s m args below meth c H locs cells slots (vx_MQ below (QQ D AC A (fun v w9 => ∃ r9 : Int32, v = some (.int r9) ∧ Q r9 w9)) (XX D AC A (fun _ _ => False)) args s mc ms A) (F0 m 40 ls [.int z0]) := by
  obtain ⟨hl0, hx, hb, hr, ht, hown, hlocks, hnm, hml, hex, hK, hA, hZ, hV⟩ := id C
  intro H locs cells slots ls hW hl hc hs
  unfold wb_Mo_order_40 at hq
  exact bw_iret C hW ⟨_, rfl, hq⟩ d_Mo_order_40 hc hs
def wb_Mo_order_20 (e0 mi : Nat) (Q : Int32 → Wd → Prop) (x0 : Nat) (x1 : Int32) (z0 : Option Nat) (z1 : Int32) (w : Wd) : Prop :=
  ∃ a1 : Nat, z0 = some a1 ∧ (bw_is w a1 6 ∧ (bw_is (sI w a1 0 z1) x0 6 ∧ (((wI (sI w a1 0 z1) x0 0) ≤ 0 → (∃ a5 : Nat, (wR (sI w a1 0 z1) x0 31) = some a5 ∧ (bw_is (sI w a1 0 z1) a5 101 ∧ (vp_in x1 (wN (sI w a1 0 z1) a5) ∧ (wb_Mo_order_40 e0 mi Q x0 x1 (wI (sI w a1 0 z1) a5 x1.toNatClampNeg) (sI w a1 0 z1)))))) ∧ (¬ (wI (sI w a1 0 z1) x0 0) ≤ 0 → (wb_Mo_order_40 e0 mi Q x0 x1 (0 : Int32) (sI w a1 0 z1))))))
set_option maxHeartbeats 4000000 in
set_option maxRecDepth 100000 in
theorem k_Mo_order_20 {p : Program} {l : Launch} {e : Env} {s : State} {m : MethodId} {args : Array Value} {below : List Frame} {meth : Method} {c : Code} {D : va_G} {AC : Nat → ClassId} {e0 mi : Nat} {A : Nat → Prop} {mc ms : Nat} {Q : Int32 → Wd → Prop} (C : Cx p l s m args meth c D AC e0 mi A n_Mo_order b_Mo_order 2 (some .int)) (x0 : Nat) (x1 : Int32) (z0 : Option Nat) (z1 : Int32) (w : Wd) (hq : wb_Mo_order_20 e0 mi Q x0 x1 z0 z1 w) : ∀ (H : Heap) (locs : List Loc) (cells slots : Nat) (ls : Array Slot), HW D cls8 FTc AC A s.heap H locs w → lv_has ls 2 [(0, va_rf (some x0)), (1, .int x1)] → cells ≤ mc → slots ≤ ms → W p l e { frames := 1, cells := mc, slots := ms, locals := 22 } s m args below meth c H locs cells slots (vx_MQ below (QQ D AC A (fun v w9 => ∃ r9 : Int32, v = some (.int r9) ∧ Q r9 w9)) (XX D AC A (fun _ _ => False)) args s mc ms A) (F0 m 20 ls [.int z1, va_rf z0]) := by
  obtain ⟨hl0, hx, hb, hr, ht, hown, hlocks, hnm, hml, hex, hK, hA, hZ, hV⟩ := id C
  intro H locs cells slots ls hW hl hc hs
  unfold wb_Mo_order_20 at hq
  obtain ⟨a1, ea1, hq⟩ := hq
  obtain ⟨t2, hq⟩ := hq
  refine bw_putI hx hb ht in_Mo y_Mo yk_Mo nm_Mo hown hK hW ea1 t2 (by decide) rfl 0 (by decide) rfl (ht _ m_744) (fun _ h => h) (Or.inl rfl) rfl rfl d_Mo_order_20 (fun H locs hW => ?_)
  refine bw_aload_n hx hb d_Mo_order_23 rfl (lv_at hl 0 rfl) ?_
  obtain ⟨t3, hq⟩ := hq
  refine bw_getI hx hb ht in_Mo hown hK hW rfl t3 (by decide) rfl 0 (by decide) rfl (ht _ m_744) (fun _ h => h) d_Mo_order_24 ?_
  refine lv_if_le (tgt := 34) hx hb d_Mo_order_27 (by decide) (fun c4 => ?_) (fun c4 => ?_)
  · have hq := hq.1 c4
    refine bw_aload_n hx hb d_Mo_order_34 rfl (lv_at hl 0 rfl) ?_
    refine bw_getR hx hb ht in_Mo hown hK hW rfl t3 (by decide) rfl 31 (by decide) rfl (ht _ m_775) (fun _ h => h) d_Mo_order_35 ?_
    refine lv_iload_n hx hb d_Mo_order_38 rfl (lv_at hl 1 rfl) ?_
    obtain ⟨a5, ea5, hq⟩ := hq
    obtain ⟨t6, hq⟩ := hq
    obtain ⟨h7, hq⟩ := hq
    refine bw_iald C hW ea5 t6 h7 d_Mo_order_39 ?_
    exact k_Mo_order_40 C  _ _ _ _ hq _ _ _ _ _ hW (lv_sub hl [0, 1] rfl) hc hs
  · have hq := hq.2 c4
    refine lv_iconst (v := 0) hx hb d_Mo_order_30 (by decide) ?_
    refine lv_goto (tgt := 40) hx hb d_Mo_order_31 (by decide) ?_
    exact k_Mo_order_40 C  _ _ _ _ hq _ _ _ _ _ hW (lv_sub hl [0, 1] rfl) hc hs
def wp_Mo_order (e0 mi : Nat) (x0 : Nat) (x1 : Int32) (w : Wd) (Q : Int32 → Wd → Prop) : Prop :=
  bw_is w x0 6 ∧ (wp_Mo_in e0 mi x1 (0 : Int32) ((wI w x0 29) - (1 : Int32)) w (fun i8 w3 => (i8 = 0 → (wb_Mo_order_20 e0 mi Q x0 x1 (some x0) (1 : Int32) w3)) ∧ (¬ i8 = 0 → (wb_Mo_order_20 e0 mi Q x0 x1 (some x0) (0 : Int32) w3))))
set_option maxHeartbeats 4000000 in
set_option maxRecDepth 100000 in
theorem k_Mo_order_0 {p : Program} {l : Launch} {e : Env} {s : State} {m : MethodId} {args : Array Value} {below : List Frame} {meth : Method} {c : Code} {D : va_G} {AC : Nat → ClassId} {e0 mi : Nat} {A : Nat → Prop} {mc ms : Nat} {Q : Int32 → Wd → Prop} (C : Cx p l s m args meth c D AC e0 mi A n_Mo_order b_Mo_order 2 (some .int)) (x0 : Nat) (x1 : Int32) (w : Wd) (hq : wp_Mo_order e0 mi x0 x1 w Q) : ∀ (H : Heap) (locs : List Loc) (cells slots : Nat) (ls : Array Slot), HW D cls8 FTc AC A s.heap H locs w → lv_has ls 2 [(0, va_rf (some x0)), (1, .int x1)] → cells ≤ mc → slots ≤ ms → W p l e { frames := 1, cells := mc, slots := ms, locals := 22 } s m args below meth c H locs cells slots (vx_MQ below (QQ D AC A (fun v w9 => ∃ r9 : Int32, v = some (.int r9) ∧ Q r9 w9)) (XX D AC A (fun _ _ => False)) args s mc ms A) (F0 m 0 ls []) := by
  obtain ⟨hl0, hx, hb, hr, ht, hown, hlocks, hnm, hml, hex, hK, hA, hZ, hV⟩ := id C
  intro H locs cells slots ls hW hl hc hs
  unfold wp_Mo_order at hq
  refine bw_aload_n hx hb d_Mo_order_0 rfl (lv_at hl 0 rfl) ?_
  refine lv_iload_n hx hb d_Mo_order_1 rfl (lv_at hl 1 rfl) ?_
  refine lv_iconst (v := 0) hx hb d_Mo_order_2 (by decide) ?_
  refine bw_aload_n hx hb d_Mo_order_3 rfl (lv_at hl 0 rfl) ?_
  obtain ⟨t1, hq⟩ := hq
  refine bw_getI hx hb ht in_Mo hown hK hW rfl t1 (by decide) rfl 29 (by decide) rfl (ht _ m_773) (fun _ h => h) d_Mo_order_4 ?_
  refine lv_iconst (v := 1) hx hb d_Mo_order_7 (by decide) ?_
  refine lv_isub hx hb d_Mo_order_8 ?_
  refine bw_callS (As := [.int x1, .int (0 : Int32), .int ((wI w x0 29) - (1 : Int32))]) (rest := [va_rf (some x0)]) C hW ci_Mo_in m_848 m_849 d_Mo_order_9 rfl rfl hl.1 (by simp [bw_cat, cat_i, cat_j]) ⟨Nat.le_of_ble_eq_true rfl, Nat.le_of_ble_eq_true rfl⟩ ⟨hc, hs⟩ (c_Mo_in hl0 _ _ _ _ hq) (fun _ _ _ _ _ _ h => h.elim) (fun v2 w3 H locs hv hW => ?_)
  obtain ⟨i8, rfl, hq⟩ := hv
  refine W.eq (g2 := F0 m 12 ls [.int i8, va_rf (some x0)]) rfl ?_
  refine lv_if_eq (tgt := 19) hx hb d_Mo_order_12 (by decide) (fun c9 => ?_) (fun c9 => ?_)
  · have hq := hq.1 c9
    refine lv_iconst (v := 1) hx hb d_Mo_order_19 (by decide) ?_
    exact k_Mo_order_20 C  _ _ _ _ _ hq _ _ _ _ _ hW (lv_sub hl [0, 1] rfl) hc hs
  · have hq := hq.2 c9
    refine lv_iconst (v := 0) hx hb d_Mo_order_15 (by decide) ?_
    refine lv_goto (tgt := 20) hx hb d_Mo_order_16 (by decide) ?_
    exact k_Mo_order_20 C  _ _ _ _ _ hq _ _ _ _ _ hW (lv_sub hl [0, 1] rfl) hc hs
theorem ci_Mo_order : CI n_Mo_order b_Mo_order 2 (some .int) 1 := ⟨m_968, m_5, by decide, by decide, by decide +kernel⟩
theorem c_Mo_order {l : Launch} {D : va_G} {AC : Nat → ClassId} {e0 mi : Nat} {Q : Int32 → Wd → Prop} (hl0 : l.stackTraces = false) (x0 : Nat) (x1 : Int32) (w : Wd) (hq : wp_Mo_order e0 mi x0 x1 w Q) : Ct l D AC e0 mi n_Mo_order (wy n_Mo_order b_Mo_order 2 (some .int)) 1 22 [va_rf (some x0), .int x1] w 0 0 (fun v w9 => ∃ r9 : Int32, v = some (.int r9) ∧ Q r9 w9) (fun _ _ => False) :=
  Ct.of hl0 (by decide) (by simp [lg_sl, bw_cat, cat_i, cat_j]) (fun p e s m args below meth c A ls C hW hl => k_Mo_order_0 C x0 x1 w hq s.heap [] 0 0 ls hW (by simpa [lv_args, bw_cat, cat_i, cat_j] using hl) (Nat.le_refl _) (Nat.le_refl _))
def wb_Mo_mean_36 (e0 mi : Nat) (Q : Int32 → Wd → Prop) (x0 : Nat) (z0 : Int32) (w : Wd) : Prop :=
  Q z0 w
set_option maxHeartbeats 4000000 in
set_option maxRecDepth 100000 in
theorem k_Mo_mean_36 {p : Program} {l : Launch} {e : Env} {s : State} {m : MethodId} {args : Array Value} {below : List Frame} {meth : Method} {c : Code} {D : va_G} {AC : Nat → ClassId} {e0 mi : Nat} {A : Nat → Prop} {mc ms : Nat} {Q : Int32 → Wd → Prop} (C : Cx p l s m args meth c D AC e0 mi A n_Mo_mean b_Mo_mean 1 (some .int)) (x0 : Nat) (z0 : Int32) (w : Wd) (hq : wb_Mo_mean_36 e0 mi Q x0 z0 w) : ∀ (H : Heap) (locs : List Loc) (cells slots : Nat) (ls : Array Slot), HW D cls8 FTc AC A s.heap H locs w → lv_has ls 1 [(0, va_rf (some x0))] → cells ≤ mc → slots ≤ ms → W p l e { frames := 0, cells := mc, slots := ms, locals := 0 } s m args below meth c H locs cells slots (vx_MQ below (QQ D AC A (fun v w9 => ∃ r9 : Int32, v = some (.int r9) ∧ Q r9 w9)) (XX D AC A (fun _ _ => False)) args s mc ms A) (F0 m 36 ls [.int z0]) := by
  obtain ⟨hl0, hx, hb, hr, ht, hown, hlocks, hnm, hml, hex, hK, hA, hZ, hV⟩ := id C
  intro H locs cells slots ls hW hl hc hs
  unfold wb_Mo_mean_36 at hq
  exact bw_iret C hW ⟨_, rfl, hq⟩ d_Mo_mean_36 hc hs
def wb_Mo_mean_13 (e0 mi : Nat) (Q : Int32 → Wd → Prop) (x0 : Nat) (z0 : Option Nat) (z1 : Int32) (w : Wd) : Prop :=
  ∃ a1 : Nat, z0 = some a1 ∧ (bw_is w a1 6 ∧ (bw_is (sI w a1 0 z1) x0 6 ∧ (((wI (sI w a1 0 z1) x0 0) ≤ 0 → (¬ (wI (sI w a1 0 z1) x0 29) = 0 ∧ (wb_Mo_mean_36 e0 mi Q x0 ((wI (sI w a1 0 z1) x0 30) / (wI (sI w a1 0 z1) x0 29)) (sI w a1 0 z1)))) ∧ (¬ (wI (sI w a1 0 z1) x0 0) ≤ 0 → (wb_Mo_mean_36 e0 mi Q x0 (0 : Int32) (sI w a1 0 z1))))))
set_option maxHeartbeats 4000000 in
set_option maxRecDepth 100000 in
theorem k_Mo_mean_13 {p : Program} {l : Launch} {e : Env} {s : State} {m : MethodId} {args : Array Value} {below : List Frame} {meth : Method} {c : Code} {D : va_G} {AC : Nat → ClassId} {e0 mi : Nat} {A : Nat → Prop} {mc ms : Nat} {Q : Int32 → Wd → Prop} (C : Cx p l s m args meth c D AC e0 mi A n_Mo_mean b_Mo_mean 1 (some .int)) (x0 : Nat) (z0 : Option Nat) (z1 : Int32) (w : Wd) (hq : wb_Mo_mean_13 e0 mi Q x0 z0 z1 w) : ∀ (H : Heap) (locs : List Loc) (cells slots : Nat) (ls : Array Slot), HW D cls8 FTc AC A s.heap H locs w → lv_has ls 1 [(0, va_rf (some x0))] → cells ≤ mc → slots ≤ ms → W p l e { frames := 0, cells := mc, slots := ms, locals := 0 } s m args below meth c H locs cells slots (vx_MQ below (QQ D AC A (fun v w9 => ∃ r9 : Int32, v = some (.int r9) ∧ Q r9 w9)) (XX D AC A (fun _ _ => False)) args s mc ms A) (F0 m 13 ls [.int z1, va_rf z0]) := by
  obtain ⟨hl0, hx, hb, hr, ht, hown, hlocks, hnm, hml, hex, hK, hA, hZ, hV⟩ := id C
  intro H locs cells slots ls hW hl hc hs
  unfold wb_Mo_mean_13 at hq
  obtain ⟨a1, ea1, hq⟩ := hq
  obtain ⟨t2, hq⟩ := hq
  refine bw_putI hx hb ht in_Mo y_Mo yk_Mo nm_Mo hown hK hW ea1 t2 (by decide) rfl 0 (by decide) rfl (ht _ m_744) (fun _ h => h) (Or.inl rfl) rfl rfl d_Mo_mean_13 (fun H locs hW => ?_)
  refine bw_aload_n hx hb d_Mo_mean_16 rfl (lv_at hl 0 rfl) ?_
  obtain ⟨t3, hq⟩ := hq
  refine bw_getI hx hb ht in_Mo hown hK hW rfl t3 (by decide) rfl 0 (by decide) rfl (ht _ m_744) (fun _ h => h) d_Mo_mean_17 ?_
  refine lv_if_le (tgt := 27) hx hb d_Mo_mean_20 (by decide) (fun c4 => ?_) (fun c4 => ?_)
  · have hq := hq.1 c4
    refine bw_aload_n hx hb d_Mo_mean_27 rfl (lv_at hl 0 rfl) ?_
    refine bw_getI hx hb ht in_Mo hown hK hW rfl t3 (by decide) rfl 30 (by decide) rfl (ht _ m_774) (fun _ h => h) d_Mo_mean_28 ?_
    refine bw_aload_n hx hb d_Mo_mean_31 rfl (lv_at hl 0 rfl) ?_
    refine bw_getI hx hb ht in_Mo hown hK hW rfl t3 (by decide) rfl 29 (by decide) rfl (ht _ m_773) (fun _ h => h) d_Mo_mean_32 ?_
    obtain ⟨h5, hq⟩ := hq
    refine lv_idiv hx hb d_Mo_mean_35 h5 ?_
    exact k_Mo_mean_36 C  _ _ _ hq _ _ _ _ _ hW (lv_sub hl [0] rfl) hc hs
  · have hq := hq.2 c4
    refine lv_iconst (v := 0) hx hb d_Mo_mean_23 (by decide) ?_
    refine lv_goto (tgt := 36) hx hb d_Mo_mean_24 (by decide) ?_
    exact k_Mo_mean_36 C  _ _ _ hq _ _ _ _ _ hW (lv_sub hl [0] rfl) hc hs
def wp_Mo_mean (e0 mi : Nat) (x0 : Nat) (w : Wd) (Q : Int32 → Wd → Prop) : Prop :=
  bw_is w x0 6 ∧ ((¬ (wI w x0 29) = 0 → (wb_Mo_mean_13 e0 mi Q x0 (some x0) (0 : Int32) w)) ∧ ((wI w x0 29) = 0 → (wb_Mo_mean_13 e0 mi Q x0 (some x0) (1 : Int32) w)))
set_option maxHeartbeats 4000000 in
set_option maxRecDepth 100000 in
theorem k_Mo_mean_0 {p : Program} {l : Launch} {e : Env} {s : State} {m : MethodId} {args : Array Value} {below : List Frame} {meth : Method} {c : Code} {D : va_G} {AC : Nat → ClassId} {e0 mi : Nat} {A : Nat → Prop} {mc ms : Nat} {Q : Int32 → Wd → Prop} (C : Cx p l s m args meth c D AC e0 mi A n_Mo_mean b_Mo_mean 1 (some .int)) (x0 : Nat) (w : Wd) (hq : wp_Mo_mean e0 mi x0 w Q) : ∀ (H : Heap) (locs : List Loc) (cells slots : Nat) (ls : Array Slot), HW D cls8 FTc AC A s.heap H locs w → lv_has ls 1 [(0, va_rf (some x0))] → cells ≤ mc → slots ≤ ms → W p l e { frames := 0, cells := mc, slots := ms, locals := 0 } s m args below meth c H locs cells slots (vx_MQ below (QQ D AC A (fun v w9 => ∃ r9 : Int32, v = some (.int r9) ∧ Q r9 w9)) (XX D AC A (fun _ _ => False)) args s mc ms A) (F0 m 0 ls []) := by
  obtain ⟨hl0, hx, hb, hr, ht, hown, hlocks, hnm, hml, hex, hK, hA, hZ, hV⟩ := id C
  intro H locs cells slots ls hW hl hc hs
  unfold wp_Mo_mean at hq
  refine bw_aload_n hx hb d_Mo_mean_0 rfl (lv_at hl 0 rfl) ?_
  refine bw_aload_n hx hb d_Mo_mean_1 rfl (lv_at hl 0 rfl) ?_
  obtain ⟨t1, hq⟩ := hq
  refine bw_getI hx hb ht in_Mo hown hK hW rfl t1 (by decide) rfl 29 (by decide) rfl (ht _ m_773) (fun _ h => h) d_Mo_mean_2 ?_
  refine lv_if_ne (tgt := 12) hx hb d_Mo_mean_5 (by decide) (fun c2 => ?_) (fun c2 => ?_)
  · have hq := hq.1 c2
    refine lv_iconst (v := 0) hx hb d_Mo_mean_12 (by decide) ?_
    exact k_Mo_mean_13 C  _ _ _ _ hq _ _ _ _ _ hW (lv_sub hl [0] rfl) hc hs
  · have hq := hq.2 c2
    refine lv_iconst (v := 1) hx hb d_Mo_mean_8 (by decide) ?_
    refine lv_goto (tgt := 13) hx hb d_Mo_mean_9 (by decide) ?_
    exact k_Mo_mean_13 C  _ _ _ _ hq _ _ _ _ _ hW (lv_sub hl [0] rfl) hc hs
theorem ci_Mo_mean : CI n_Mo_mean b_Mo_mean 1 (some .int) 0 := ⟨m_972, m_5, by decide, by decide, by decide +kernel⟩
theorem c_Mo_mean {l : Launch} {D : va_G} {AC : Nat → ClassId} {e0 mi : Nat} {Q : Int32 → Wd → Prop} (hl0 : l.stackTraces = false) (x0 : Nat) (w : Wd) (hq : wp_Mo_mean e0 mi x0 w Q) : Ct l D AC e0 mi n_Mo_mean (wy n_Mo_mean b_Mo_mean 1 (some .int)) 0 0 [va_rf (some x0)] w 0 0 (fun v w9 => ∃ r9 : Int32, v = some (.int r9) ∧ Q r9 w9) (fun _ _ => False) :=
  Ct.of hl0 (by decide) (by simp [lg_sl, bw_cat, cat_i, cat_j]) (fun p e s m args below meth c A ls C hW hl => k_Mo_mean_0 C x0 w hq s.heap [] 0 0 ls hW (by simpa [lv_args, bw_cat, cat_i, cat_j] using hl) (Nat.le_refl _) (Nat.le_refl _))
def wb_Mo_count_113 (e0 mi : Nat) (Q : Int32 → Wd → Prop) (x0 : Nat) (x1 : Int32) (x2 : Int32) (x3 : Int32) (z0 : Int32) (w : Wd) : Prop :=
  Q z0 w
set_option maxHeartbeats 4000000 in
set_option maxRecDepth 100000 in
theorem k_Mo_count_113 {p : Program} {l : Launch} {e : Env} {s : State} {m : MethodId} {args : Array Value} {below : List Frame} {meth : Method} {c : Code} {D : va_G} {AC : Nat → ClassId} {e0 mi : Nat} {A : Nat → Prop} {mc ms : Nat} {Q : Int32 → Wd → Prop} (C : Cx p l s m args meth c D AC e0 mi A n_Mo_count b_Mo_count 4 (some .int)) (x0 : Nat) (x1 : Int32) (x2 : Int32) (x3 : Int32) (z0 : Int32) (w : Wd) (hq : wb_Mo_count_113 e0 mi Q x0 x1 x2 x3 z0 w) : ∀ (H : Heap) (locs : List Loc) (cells slots : Nat) (ls : Array Slot), HW D cls8 FTc AC A s.heap H locs w → lv_has ls 4 [(0, va_rf (some x0)), (1, .int x1), (2, .int x2), (3, .int x3)] → cells ≤ mc → slots ≤ ms → W p l e { frames := 0, cells := mc, slots := ms, locals := 0 } s m args below meth c H locs cells slots (vx_MQ below (QQ D AC A (fun v w9 => ∃ r9 : Int32, v = some (.int r9) ∧ Q r9 w9)) (XX D AC A (fun _ _ => False)) args s mc ms A) (F0 m 113 ls [.int z0]) := by
  obtain ⟨hl0, hx, hb, hr, ht, hown, hlocks, hnm, hml, hex, hK, hA, hZ, hV⟩ := id C
  intro H locs cells slots ls hW hl hc hs
  unfold wb_Mo_count_113 at hq
  exact bw_iret C hW ⟨_, rfl, hq⟩ d_Mo_count_113 hc hs
def wb_Mo_count_80 (e0 mi : Nat) (Q : Int32 → Wd → Prop) : Nat → Nat → Int32 → Int32 → Int32 → Wd → Prop
  | 0, _, _, _, _, _ => False
  | n + 1, x0, x1, x2, x3, w => bw_is w x0 6 ∧ (((wI w x0 3) ≤ x3 → ((¬ x1 = (2 : Int32) → (wb_Mo_count_113 e0 mi Q x0 x1 x2 x3 (-1 : Int32) w)) ∧ (x1 = (2 : Int32) → (wb_Mo_count_113 e0 mi Q x0 x1 x2 x3 x2 w)))) ∧ (¬ (wI w x0 3) ≤ x3 → (∃ a4 : Nat, (wR w x0 10) = some a4 ∧ (bw_is w a4 101 ∧ (vp_in x3 (wN w a4) ∧ (∀ i7 : Int32, i7 = x2 + (wI w a4 x3.toNatClampNeg) → (∀ i8 : Int32, i8 = x3 + 1 → ((wb_Mo_count_80 e0 mi Q n) x0 x1 i7 i8 w))))))))
set_option maxHeartbeats 4000000 in
set_option maxRecDepth 100000 in
theorem k_Mo_count_80 {p : Program} {l : Launch} {e : Env} {s : State} {m : MethodId} {args : Array Value} {below : List Frame} {meth : Method} {c : Code} {D : va_G} {AC : Nat → ClassId} {e0 mi : Nat} {A : Nat → Prop} {mc ms : Nat} {Q : Int32 → Wd → Prop} (C : Cx p l s m args meth c D AC e0 mi A n_Mo_count b_Mo_count 4 (some .int)) : ∀ (n : Nat) (x0 : Nat) (x1 : Int32) (x2 : Int32) (x3 : Int32) (w : Wd), wb_Mo_count_80 e0 mi Q n x0 x1 x2 x3 w → ∀ (H : Heap) (locs : List Loc) (cells slots : Nat) (ls : Array Slot), HW D cls8 FTc AC A s.heap H locs w → lv_has ls 4 [(0, va_rf (some x0)), (1, .int x1), (2, .int x2), (3, .int x3)] → cells ≤ mc → slots ≤ ms → W p l e { frames := 0, cells := mc, slots := ms, locals := 0 } s m args below meth c H locs cells slots (vx_MQ below (QQ D AC A (fun v w9 => ∃ r9 : Int32, v = some (.int r9) ∧ Q r9 w9)) (XX D AC A (fun _ _ => False)) args s mc ms A) (F0 m 80 ls []) := by
  obtain ⟨hl0, hx, hb, hr, ht, hown, hlocks, hnm, hml, hex, hK, hA, hZ, hV⟩ := id C
  intro n
  induction n with
  | zero =>
    intro x0 x1 x2 x3 w hq
    exact hq.elim
  | succ n ih =>
    intro x0 x1 x2 x3 w hq H locs cells slots ls hW hl hc hs
    have hK80 := ih
    unfold wb_Mo_count_80 at hq
    refine lv_iload_n hx hb d_Mo_count_80 rfl (lv_at hl 3 rfl) ?_
    refine bw_aload_n hx hb d_Mo_count_81 rfl (lv_at hl 0 rfl) ?_
    obtain ⟨t1, hq⟩ := hq
    refine bw_getI hx hb ht in_Mo hown hK hW rfl t1 (by decide) rfl 3 (by decide) rfl (ht _ m_747) (fun _ h => h) d_Mo_count_82 ?_
    refine lv_icmp_ge (tgt := 103) hx hb d_Mo_count_85 (by decide) (fun c2 => ?_) (fun c2 => ?_)
    · have hq := hq.1 c2
      refine lv_iload_n hx hb d_Mo_count_103 rfl (lv_at hl 1 rfl) ?_
      refine lv_iconst (v := 2) hx hb d_Mo_count_104 (by decide) ?_
      refine lv_icmp_ne (tgt := 112) hx hb d_Mo_count_105 (by decide) (fun c3 => ?_) (fun c3 => ?_)
      · have hq := hq.1 c3
        refine lv_iconst (v := (-1)) hx hb d_Mo_count_112 (by decide) ?_
        exact k_Mo_count_113 C  _ _ _ _ _ _ hq _ _ _ _ _ hW (lv_sub hl [0, 1, 2, 3] rfl) hc hs
      · have hq := hq.2 c3
        refine lv_iload_n hx hb d_Mo_count_108 rfl (lv_at hl 2 rfl) ?_
        refine lv_goto (tgt := 113) hx hb d_Mo_count_109 (by decide) ?_
        exact k_Mo_count_113 C  _ _ _ _ _ _ hq _ _ _ _ _ hW (lv_sub hl [0, 1, 2, 3] rfl) hc hs
    · have hq := hq.2 c2
      refine lv_iload_n hx hb d_Mo_count_88 rfl (lv_at hl 2 rfl) ?_
      refine bw_aload_n hx hb d_Mo_count_89 rfl (lv_at hl 0 rfl) ?_
      refine bw_getR hx hb ht in_Mo hown hK hW rfl t1 (by decide) rfl 10 (by decide) rfl (ht _ m_754) (fun _ h => h) d_Mo_count_90 ?_
      refine lv_iload_n hx hb d_Mo_count_93 rfl (lv_at hl 3 rfl) ?_
      obtain ⟨a4, ea4, hq⟩ := hq
      obtain ⟨t5, hq⟩ := hq
      obtain ⟨h6, hq⟩ := hq
      refine bw_iald C hW ea4 t5 h6 d_Mo_count_94 ?_
      refine lv_iadd hx hb d_Mo_count_95 ?_
      refine lv_topi (fun i7 ei7 => ?_)
      have hq := hq i7 ei7
      refine lv_istore_n (i := 2) (lv' := [(2, .int i7), (0, va_rf (some x0)), (1, .int x1), (3, .int x3)]) hx hb d_Mo_count_96 rfl hl (by decide) (by simp [bw_cat, cat_i, cat_j]) (fun ls hl => ?_)
      obtain ⟨i8, ei8⟩ : ∃ y : Int32, y = x3 + 1 := ⟨_, rfl⟩
      have hq := hq i8 ei8
      refine lv_iinc (v := i8) (lv' := [(3, .int i8), (2, .int i7), (0, va_rf (some x0)), (1, .int x1)]) hx hb d_Mo_count_97 hl (k := 3) rfl (by rw [ei8]; rfl) (by decide) (by simp [bw_cat, cat_i, cat_j]) (fun ls hl => ?_)
      refine lv_goto (tgt := 80) hx hb d_Mo_count_100 (by decide) ?_
      exact hK80 _ _ _ _ _ hq _ _ _ _ _ hW (lv_sub hl [2, 3, 1, 0] rfl) hc hs
def wp_Mo_count (e0 mi : Nat) (x0 : Nat) (x1 : Int32) (w : Wd) (Q : Int32 → Wd → Prop) : Prop :=
  bw_is w x0 6 ∧ ((¬ x1 = 0 → ((¬ x1 = (1 : Int32) → ((¬ x1 = (3 : Int32) → ((¬ x1 = (4 : Int32) → ((¬ x1 = (5 : Int32) → ((¬ x1 = (6 : Int32) → ((¬ x1 = (7 : Int32) → (∃ n9 : Nat, wb_Mo_count_80 e0 mi Q n9 x0 x1 (0 : Int32) (0 : Int32) (sI w x0 0 (0 : Int32)))) ∧ (x1 = (7 : Int32) → (Q (wI (sI w x0 0 (0 : Int32)) x0 25) (sI w x0 0 (0 : Int32)))))) ∧ (x1 = (6 : Int32) → (Q (wI (sI w x0 0 (0 : Int32)) x0 21) (sI w x0 0 (0 : Int32)))))) ∧ (x1 = (5 : Int32) → (Q (wI (sI w x0 0 (0 : Int32)) x0 1) (sI w x0 0 (0 : Int32)))))) ∧ (x1 = (4 : Int32) → (Q (wI (sI w x0 0 (0 : Int32)) x0 27) (sI w x0 0 (0 : Int32)))))) ∧ (x1 = (3 : Int32) → (Q (wI (sI w x0 0 (0 : Int32)) x0 29) (sI w x0 0 (0 : Int32)))))) ∧ (x1 = (1 : Int32) → (Q (wI (sI w x0 0 (0 : Int32)) x0 12) (sI w x0 0 (0 : Int32)))))) ∧ (x1 = 0 → (Q (wI (sI w x0 0 (0 : Int32)) x0 3) (sI w x0 0 (0 : Int32)))))
set_option maxHeartbeats 4000000 in
set_option maxRecDepth 100000 in
theorem k_Mo_count_0 {p : Program} {l : Launch} {e : Env} {s : State} {m : MethodId} {args : Array Value} {below : List Frame} {meth : Method} {c : Code} {D : va_G} {AC : Nat → ClassId} {e0 mi : Nat} {A : Nat → Prop} {mc ms : Nat} {Q : Int32 → Wd → Prop} (C : Cx p l s m args meth c D AC e0 mi A n_Mo_count b_Mo_count 4 (some .int)) (x0 : Nat) (x1 : Int32) (w : Wd) (hq : wp_Mo_count e0 mi x0 x1 w Q) : ∀ (H : Heap) (locs : List Loc) (cells slots : Nat) (ls : Array Slot), HW D cls8 FTc AC A s.heap H locs w → lv_has ls 4 [(0, va_rf (some x0)), (1, .int x1)] → cells ≤ mc → slots ≤ ms → W p l e { frames := 0, cells := mc, slots := ms, locals := 0 } s m args below meth c H locs cells slots (vx_MQ below (QQ D AC A (fun v w9 => ∃ r9 : Int32, v = some (.int r9) ∧ Q r9 w9)) (XX D AC A (fun _ _ => False)) args s mc ms A) (F0 m 0 ls []) := by
  obtain ⟨hl0, hx, hb, hr, ht, hown, hlocks, hnm, hml, hex, hK, hA, hZ, hV⟩ := id C
  intro H locs cells slots ls hW hl hc hs
  unfold wp_Mo_count at hq
  refine bw_aload_n hx hb d_Mo_count_0 rfl (lv_at hl 0 rfl) ?_
  refine lv_iconst (v := 0) hx hb d_Mo_count_1 (by decide) ?_
  obtain ⟨t1, hq⟩ := hq
  refine bw_putI hx hb ht in_Mo y_Mo yk_Mo nm_Mo hown hK hW rfl t1 (by decide) rfl 0 (by decide) rfl (ht _ m_744) (fun _ h => h) (Or.inl rfl) rfl rfl d_Mo_count_2 (fun H locs hW => ?_)
  refine lv_iload_n hx hb d_Mo_count_5 rfl (lv_at hl 1 rfl) ?_
  refine lv_if_ne (tgt := 14) hx hb d_Mo_count_6 (by decide) (fun c2 => ?_) (fun c2 => ?_)
  · have hq := hq.1 c2
    refine lv_iload_n hx hb d_Mo_count_14 rfl (lv_at hl 1 rfl) ?_
    refine lv_iconst (v := 1) hx hb d_Mo_count_15 (by decide) ?_
    refine lv_icmp_ne (tgt := 24) hx hb d_Mo_count_16 (by decide) (fun c3 => ?_) (fun c3 => ?_)
    · have hq := hq.1 c3
      refine lv_iload_n hx hb d_Mo_count_24 rfl (lv_at hl 1 rfl) ?_
      refine lv_iconst (v := 3) hx hb d_Mo_count_25 (by decide) ?_
      refine lv_icmp_ne (tgt := 34) hx hb d_Mo_count_26 (by decide) (fun c4 => ?_) (fun c4 => ?_)
      · have hq := hq.1 c4
        refine lv_iload_n hx hb d_Mo_count_34 rfl (lv_at hl 1 rfl) ?_
        refine lv_iconst (v := 4) hx hb d_Mo_count_35 (by decide) ?_
        refine lv_icmp_ne (tgt := 44) hx hb d_Mo_count_36 (by decide) (fun c5 => ?_) (fun c5 => ?_)
        · have hq := hq.1 c5
          refine lv_iload_n hx hb d_Mo_count_44 rfl (lv_at hl 1 rfl) ?_
          refine lv_iconst (v := 5) hx hb d_Mo_count_45 (by decide) ?_
          refine lv_icmp_ne (tgt := 54) hx hb d_Mo_count_46 (by decide) (fun c6 => ?_) (fun c6 => ?_)
          · have hq := hq.1 c6
            refine lv_iload_n hx hb d_Mo_count_54 rfl (lv_at hl 1 rfl) ?_
            refine lv_bipush (v := 6) hx hb d_Mo_count_55 (by decide) ?_
            refine lv_icmp_ne (tgt := 65) hx hb d_Mo_count_57 (by decide) (fun c7 => ?_) (fun c7 => ?_)
            · have hq := hq.1 c7
              refine lv_iload_n hx hb d_Mo_count_65 rfl (lv_at hl 1 rfl) ?_
              refine lv_bipush (v := 7) hx hb d_Mo_count_66 (by decide) ?_
              refine lv_icmp_ne (tgt := 76) hx hb d_Mo_count_68 (by decide) (fun c8 => ?_) (fun c8 => ?_)
              · have hq := hq.1 c8
                refine lv_iconst (v := 0) hx hb d_Mo_count_76 (by decide) ?_
                refine lv_istore_n (i := 2) (lv' := [(2, .int (0 : Int32)), (0, va_rf (some x0)), (1, .int x1)]) hx hb d_Mo_count_77 rfl hl (by decide) (by simp [bw_cat, cat_i, cat_j]) (fun ls hl => ?_)
                refine lv_iconst (v := 0) hx hb d_Mo_count_78 (by decide) ?_
                refine lv_istore_n (i := 3) (lv' := [(3, .int (0 : Int32)), (2, .int (0 : Int32)), (0, va_rf (some x0)), (1, .int x1)]) hx hb d_Mo_count_79 rfl hl (by decide) (by simp [bw_cat, cat_i, cat_j]) (fun ls hl => ?_)
                obtain ⟨n9, hq⟩ := hq
                exact k_Mo_count_80 C  n9 _ _ _ _ _ hq _ _ _ _ _ hW (lv_sub hl [2, 3, 1, 0] rfl) hc hs
              · have hq := hq.2 c8
                refine bw_aload_n hx hb d_Mo_count_71 rfl (lv_at hl 0 rfl) ?_
                refine bw_getI hx hb ht in_Mo hown hK hW rfl t1 (by decide) rfl 25 (by decide) rfl (ht _ m_769) (fun _ h => h) d_Mo_count_72 ?_
                exact bw_iret C hW ⟨_, rfl, hq⟩ d_Mo_count_75 hc hs
            · have hq := hq.2 c7
              refine bw_aload_n hx hb d_Mo_count_60 rfl (lv_at hl 0 rfl) ?_
              refine bw_getI hx hb ht in_Mo hown hK hW rfl t1 (by decide) rfl 21 (by decide) rfl (ht _ m_765) (fun _ h => h) d_Mo_count_61 ?_
              exact bw_iret C hW ⟨_, rfl, hq⟩ d_Mo_count_64 hc hs
          · have hq := hq.2 c6
            refine bw_aload_n hx hb d_Mo_count_49 rfl (lv_at hl 0 rfl) ?_
            refine bw_getI hx hb ht in_Mo hown hK hW rfl t1 (by decide) rfl 1 (by decide) rfl (ht _ m_745) (fun _ h => h) d_Mo_count_50 ?_
            exact bw_iret C hW ⟨_, rfl, hq⟩ d_Mo_count_53 hc hs
        · have hq := hq.2 c5
          refine bw_aload_n hx hb d_Mo_count_39 rfl (lv_at hl 0 rfl) ?_
          refine bw_getI hx hb ht in_Mo hown hK hW rfl t1 (by decide) rfl 27 (by decide) rfl (ht _ m_771) (fun _ h => h) d_Mo_count_40 ?_
          exact bw_iret C hW ⟨_, rfl, hq⟩ d_Mo_count_43 hc hs
      · have hq := hq.2 c4
        refine bw_aload_n hx hb d_Mo_count_29 rfl (lv_at hl 0 rfl) ?_
        refine bw_getI hx hb ht in_Mo hown hK hW rfl t1 (by decide) rfl 29 (by decide) rfl (ht _ m_773) (fun _ h => h) d_Mo_count_30 ?_
        exact bw_iret C hW ⟨_, rfl, hq⟩ d_Mo_count_33 hc hs
    · have hq := hq.2 c3
      refine bw_aload_n hx hb d_Mo_count_19 rfl (lv_at hl 0 rfl) ?_
      refine bw_getI hx hb ht in_Mo hown hK hW rfl t1 (by decide) rfl 12 (by decide) rfl (ht _ m_756) (fun _ h => h) d_Mo_count_20 ?_
      exact bw_iret C hW ⟨_, rfl, hq⟩ d_Mo_count_23 hc hs
  · have hq := hq.2 c2
    refine bw_aload_n hx hb d_Mo_count_9 rfl (lv_at hl 0 rfl) ?_
    refine bw_getI hx hb ht in_Mo hown hK hW rfl t1 (by decide) rfl 3 (by decide) rfl (ht _ m_747) (fun _ h => h) d_Mo_count_10 ?_
    exact bw_iret C hW ⟨_, rfl, hq⟩ d_Mo_count_13 hc hs
theorem ci_Mo_count : CI n_Mo_count b_Mo_count 4 (some .int) 1 := ⟨m_976, m_5, by decide, by decide, by decide +kernel⟩
theorem c_Mo_count {l : Launch} {D : va_G} {AC : Nat → ClassId} {e0 mi : Nat} {Q : Int32 → Wd → Prop} (hl0 : l.stackTraces = false) (x0 : Nat) (x1 : Int32) (w : Wd) (hq : wp_Mo_count e0 mi x0 x1 w Q) : Ct l D AC e0 mi n_Mo_count (wy n_Mo_count b_Mo_count 4 (some .int)) 0 0 [va_rf (some x0), .int x1] w 0 0 (fun v w9 => ∃ r9 : Int32, v = some (.int r9) ∧ Q r9 w9) (fun _ _ => False) :=
  Ct.of hl0 (by decide) (by simp [lg_sl, bw_cat, cat_i, cat_j]) (fun p e s m args below meth c A ls C hW hl => k_Mo_count_0 C x0 x1 w hq s.heap [] 0 0 ls hW (by simpa [lv_args, bw_cat, cat_i, cat_j] using hl) (Nat.le_refl _) (Nat.le_refl _))
