/-! the law, printed by wip/gen/runl.py -/
def wb_La_law_1225 (e0 mi : Nat) (K23 : Option Nat → Option Nat → Option Nat → Int32 → Wd → Nat → Nat → Prop) (L : Nat) (xs : Nat → Int32) (x1 : Option Nat) (x2 : Option Nat) (x3 : Option Nat) (x4 : Int32) (w : Wd) (nc ns : Nat) : Prop :=
  ∀ i1 : Int32, i1 = x4 + 5 → (K23 x1 x2 x3 i1 w nc ns)
set_option maxHeartbeats 4000000 in
set_option maxRecDepth 100000 in
theorem k_La_law_1225 {p : Program} {l : Launch} {e : Env} {s : State} {m : MethodId} {below : List Frame} {meth : Method} {c : Code} {D : va_G} {AC : Nat → ClassId} {e0 mi : Nat} {x0 L : Nat} {xs : Nat → Int32} {K23 : Option Nat → Option Nat → Option Nat → Int32 → Wd → Nat → Nat → Prop} (C : Cx p l s m #[Value.ref x0] meth c D AC e0 mi (fun q : Nat => s.heap.size ≤ q) n_La_law b_La_law 7 (some .boolean)) (hX : va_X x0 L xs s s.heap) (hbl : x0 < s.heap.size) (hK23 : ∀ (x1 : Option Nat) (x2 : Option Nat) (x3 : Option Nat) (x4 : Int32) (w : Wd) (nc ns : Nat), K23 x1 x2 x3 x4 w nc ns → ∀ (H : Heap) (locs : List Loc) (cells slots : Nat) (ls : Array Slot), HW D cls8 FTc AC (fun q : Nat => s.heap.size ≤ q) s.heap H locs w → lv_has ls 7 [(0, va_rf (some x0)), (1, va_rf x1), (2, va_rf x2), (3, va_rf x3), (4, .int x4)] → cells + nc ≤ 600002 → slots + ns ≤ 7302231 → W p l e room_1 s m #[Value.ref x0] below meth c H locs cells slots (lw_Z below #[Value.ref x0] s) (F0 m 23 ls [])) (x1 : Option Nat) (x2 : Option Nat) (x3 : Option Nat) (x4 : Int32) (w : Wd) (nc ns : Nat) (hq : wb_La_law_1225 e0 mi K23 L xs x1 x2 x3 x4 w nc ns) : ∀ (H : Heap) (locs : List Loc) (cells slots : Nat) (ls : Array Slot), HW D cls8 FTc AC (fun q : Nat => s.heap.size ≤ q) s.heap H locs w → lv_has ls 7 [(0, va_rf (some x0)), (1, va_rf x1), (2, va_rf x2), (3, va_rf x3), (4, .int x4)] → cells + nc ≤ 600002 → slots + ns ≤ 7302231 → W p l e room_1 s m #[Value.ref x0] below meth c H locs cells slots (lw_Z below #[Value.ref x0] s) (F0 m 1225 ls []) := by
  obtain ⟨hl0, hx, hb, hr, ht, hown, hlocks, hnm, hml, hex, hK, hA, hZ, hV⟩ := id C
  have hbA : ¬ (fun q : Nat => s.heap.size ≤ q) x0 := Nat.not_le.mpr hbl
  intro H locs cells slots ls hW hl hc hs
  unfold wb_La_law_1225 at hq
  obtain ⟨i1, ei1⟩ : ∃ y : Int32, y = x4 + 5 := ⟨_, rfl⟩
  have hq := hq i1 ei1
  refine lv_iinc (v := i1) (lv' := [(4, .int i1), (0, va_rf (some x0)), (1, va_rf x1), (2, va_rf x2), (3, va_rf x3)]) hx hb d_La_law_1225 hl (k := 4) rfl (by rw [ei1]; rfl) (by decide) (by simp [bw_cat, cat_i, cat_j]) (fun ls hl => ?_)
  refine lv_goto (tgt := 23) hx hb d_La_law_1228 (by decide) ?_
  exact hK23 _ _ _ _ _ _ _ hq _ _ _ _ _ hW (lv_sub hl [1, 2, 3, 4, 0] rfl) hc hs
def wb_La_law_1197 (e0 mi : Nat) (K23 : Option Nat → Option Nat → Option Nat → Int32 → Wd → Nat → Nat → Prop) (L : Nat) (xs : Nat → Int32) (x1 : Option Nat) (x2 : Option Nat) (x3 : Option Nat) (x4 : Int32) (x5 : Int32) (x6 : Int32) (w : Wd) (nc ns : Nat) : Prop :=
  wb_La_law_1225 e0 mi K23 L xs x1 x2 x3 x4 w nc ns
set_option maxHeartbeats 4000000 in
set_option maxRecDepth 100000 in
theorem k_La_law_1197 {p : Program} {l : Launch} {e : Env} {s : State} {m : MethodId} {below : List Frame} {meth : Method} {c : Code} {D : va_G} {AC : Nat → ClassId} {e0 mi : Nat} {x0 L : Nat} {xs : Nat → Int32} {K23 : Option Nat → Option Nat → Option Nat → Int32 → Wd → Nat → Nat → Prop} (C : Cx p l s m #[Value.ref x0] meth c D AC e0 mi (fun q : Nat => s.heap.size ≤ q) n_La_law b_La_law 7 (some .boolean)) (hX : va_X x0 L xs s s.heap) (hbl : x0 < s.heap.size) (hK23 : ∀ (x1 : Option Nat) (x2 : Option Nat) (x3 : Option Nat) (x4 : Int32) (w : Wd) (nc ns : Nat), K23 x1 x2 x3 x4 w nc ns → ∀ (H : Heap) (locs : List Loc) (cells slots : Nat) (ls : Array Slot), HW D cls8 FTc AC (fun q : Nat => s.heap.size ≤ q) s.heap H locs w → lv_has ls 7 [(0, va_rf (some x0)), (1, va_rf x1), (2, va_rf x2), (3, va_rf x3), (4, .int x4)] → cells + nc ≤ 600002 → slots + ns ≤ 7302231 → W p l e room_1 s m #[Value.ref x0] below meth c H locs cells slots (lw_Z below #[Value.ref x0] s) (F0 m 23 ls [])) (x1 : Option Nat) (x2 : Option Nat) (x3 : Option Nat) (x4 : Int32) (x5 : Int32) (x6 : Int32) (w : Wd) (nc ns : Nat) (hq : wb_La_law_1197 e0 mi K23 L xs x1 x2 x3 x4 x5 x6 w nc ns) : ∀ (H : Heap) (locs : List Loc) (cells slots : Nat) (ls : Array Slot), HW D cls8 FTc AC (fun q : Nat => s.heap.size ≤ q) s.heap H locs w → lv_has ls 7 [(0, va_rf (some x0)), (1, va_rf x1), (2, va_rf x2), (3, va_rf x3), (4, .int x4), (5, .int x5), (6, .int x6)] → cells + nc ≤ 600002 → slots + ns ≤ 7302231 → W p l e room_1 s m #[Value.ref x0] below meth c H locs cells slots (lw_Z below #[Value.ref x0] s) (F0 m 1197 ls []) := by
  obtain ⟨hl0, hx, hb, hr, ht, hown, hlocks, hnm, hml, hex, hK, hA, hZ, hV⟩ := id C
  have hbA : ¬ (fun q : Nat => s.heap.size ≤ q) x0 := Nat.not_le.mpr hbl
  intro H locs cells slots ls hW hl hc hs
  unfold wb_La_law_1197 at hq
  refine lv_goto (tgt := 1225) hx hb d_La_law_1197 (by decide) ?_
  exact k_La_law_1225 C hX hbl hK23 _ _ _ _ _ _ _ hq _ _ _ _ _ hW (lv_sub hl [0, 1, 2, 3, 4] rfl) hc hs
def wb_La_law_1153 (e0 mi : Nat) (K23 : Option Nat → Option Nat → Option Nat → Int32 → Wd → Nat → Nat → Prop) (L : Nat) (xs : Nat → Int32) (x1 : Option Nat) (x2 : Option Nat) (x3 : Option Nat) (x4 : Int32) (x5 : Int32) (x6 : Int32) (w : Wd) (nc ns : Nat) : Prop :=
  wb_La_law_1225 e0 mi K23 L xs x1 x2 x3 x4 w nc ns
set_option maxHeartbeats 4000000 in
set_option maxRecDepth 100000 in
theorem k_La_law_1153 {p : Program} {l : Launch} {e : Env} {s : State} {m : MethodId} {below : List Frame} {meth : Method} {c : Code} {D : va_G} {AC : Nat → ClassId} {e0 mi : Nat} {x0 L : Nat} {xs : Nat → Int32} {K23 : Option Nat → Option Nat → Option Nat → Int32 → Wd → Nat → Nat → Prop} (C : Cx p l s m #[Value.ref x0] meth c D AC e0 mi (fun q : Nat => s.heap.size ≤ q) n_La_law b_La_law 7 (some .boolean)) (hX : va_X x0 L xs s s.heap) (hbl : x0 < s.heap.size) (hK23 : ∀ (x1 : Option Nat) (x2 : Option Nat) (x3 : Option Nat) (x4 : Int32) (w : Wd) (nc ns : Nat), K23 x1 x2 x3 x4 w nc ns → ∀ (H : Heap) (locs : List Loc) (cells slots : Nat) (ls : Array Slot), HW D cls8 FTc AC (fun q : Nat => s.heap.size ≤ q) s.heap H locs w → lv_has ls 7 [(0, va_rf (some x0)), (1, va_rf x1), (2, va_rf x2), (3, va_rf x3), (4, .int x4)] → cells + nc ≤ 600002 → slots + ns ≤ 7302231 → W p l e room_1 s m #[Value.ref x0] below meth c H locs cells slots (lw_Z below #[Value.ref x0] s) (F0 m 23 ls [])) (x1 : Option Nat) (x2 : Option Nat) (x3 : Option Nat) (x4 : Int32) (x5 : Int32) (x6 : Int32) (w : Wd) (nc ns : Nat) (hq : wb_La_law_1153 e0 mi K23 L xs x1 x2 x3 x4 x5 x6 w nc ns) : ∀ (H : Heap) (locs : List Loc) (cells slots : Nat) (ls : Array Slot), HW D cls8 FTc AC (fun q : Nat => s.heap.size ≤ q) s.heap H locs w → lv_has ls 7 [(0, va_rf (some x0)), (1, va_rf x1), (2, va_rf x2), (3, va_rf x3), (4, .int x4), (5, .int x5), (6, .int x6)] → cells + nc ≤ 600002 → slots + ns ≤ 7302231 → W p l e room_1 s m #[Value.ref x0] below meth c H locs cells slots (lw_Z below #[Value.ref x0] s) (F0 m 1153 ls []) := by
  obtain ⟨hl0, hx, hb, hr, ht, hown, hlocks, hnm, hml, hex, hK, hA, hZ, hV⟩ := id C
  have hbA : ¬ (fun q : Nat => s.heap.size ≤ q) x0 := Nat.not_le.mpr hbl
  intro H locs cells slots ls hW hl hc hs
  unfold wb_La_law_1153 at hq
  refine lv_goto (tgt := 1225) hx hb d_La_law_1153 (by decide) ?_
  exact k_La_law_1225 C hX hbl hK23 _ _ _ _ _ _ _ hq _ _ _ _ _ hW (lv_sub hl [0, 1, 2, 3, 4] rfl) hc hs
def wb_La_law_1097 (e0 mi : Nat) (K23 : Option Nat → Option Nat → Option Nat → Int32 → Wd → Nat → Nat → Prop) (L : Nat) (xs : Nat → Int32) (x1 : Option Nat) (x2 : Option Nat) (x3 : Option Nat) (x4 : Int32) (x5 : Int32) (x6 : Int32) (w : Wd) (nc ns : Nat) : Prop :=
  wb_La_law_1225 e0 mi K23 L xs x1 x2 x3 x4 w nc ns
set_option maxHeartbeats 4000000 in
set_option maxRecDepth 100000 in
theorem k_La_law_1097 {p : Program} {l : Launch} {e : Env} {s : State} {m : MethodId} {below : List Frame} {meth : Method} {c : Code} {D : va_G} {AC : Nat → ClassId} {e0 mi : Nat} {x0 L : Nat} {xs : Nat → Int32} {K23 : Option Nat → Option Nat → Option Nat → Int32 → Wd → Nat → Nat → Prop} (C : Cx p l s m #[Value.ref x0] meth c D AC e0 mi (fun q : Nat => s.heap.size ≤ q) n_La_law b_La_law 7 (some .boolean)) (hX : va_X x0 L xs s s.heap) (hbl : x0 < s.heap.size) (hK23 : ∀ (x1 : Option Nat) (x2 : Option Nat) (x3 : Option Nat) (x4 : Int32) (w : Wd) (nc ns : Nat), K23 x1 x2 x3 x4 w nc ns → ∀ (H : Heap) (locs : List Loc) (cells slots : Nat) (ls : Array Slot), HW D cls8 FTc AC (fun q : Nat => s.heap.size ≤ q) s.heap H locs w → lv_has ls 7 [(0, va_rf (some x0)), (1, va_rf x1), (2, va_rf x2), (3, va_rf x3), (4, .int x4)] → cells + nc ≤ 600002 → slots + ns ≤ 7302231 → W p l e room_1 s m #[Value.ref x0] below meth c H locs cells slots (lw_Z below #[Value.ref x0] s) (F0 m 23 ls [])) (x1 : Option Nat) (x2 : Option Nat) (x3 : Option Nat) (x4 : Int32) (x5 : Int32) (x6 : Int32) (w : Wd) (nc ns : Nat) (hq : wb_La_law_1097 e0 mi K23 L xs x1 x2 x3 x4 x5 x6 w nc ns) : ∀ (H : Heap) (locs : List Loc) (cells slots : Nat) (ls : Array Slot), HW D cls8 FTc AC (fun q : Nat => s.heap.size ≤ q) s.heap H locs w → lv_has ls 7 [(0, va_rf (some x0)), (1, va_rf x1), (2, va_rf x2), (3, va_rf x3), (4, .int x4), (5, .int x5), (6, .int x6)] → cells + nc ≤ 600002 → slots + ns ≤ 7302231 → W p l e room_1 s m #[Value.ref x0] below meth c H locs cells slots (lw_Z below #[Value.ref x0] s) (F0 m 1097 ls []) := by
  obtain ⟨hl0, hx, hb, hr, ht, hown, hlocks, hnm, hml, hex, hK, hA, hZ, hV⟩ := id C
  have hbA : ¬ (fun q : Nat => s.heap.size ≤ q) x0 := Nat.not_le.mpr hbl
  intro H locs cells slots ls hW hl hc hs
  unfold wb_La_law_1097 at hq
  refine lv_goto (tgt := 1225) hx hb d_La_law_1097 (by decide) ?_
  exact k_La_law_1225 C hX hbl hK23 _ _ _ _ _ _ _ hq _ _ _ _ _ hW (lv_sub hl [0, 1, 2, 3, 4] rfl) hc hs
def wb_La_law_1029 (e0 mi : Nat) (K23 : Option Nat → Option Nat → Option Nat → Int32 → Wd → Nat → Nat → Prop) (L : Nat) (xs : Nat → Int32) (x1 : Option Nat) (x2 : Option Nat) (x3 : Option Nat) (x4 : Int32) (x5 : Int32) (x6 : Int32) (w : Wd) (nc ns : Nat) : Prop :=
  wb_La_law_1225 e0 mi K23 L xs x1 x2 x3 x4 w nc ns
set_option maxHeartbeats 4000000 in
set_option maxRecDepth 100000 in
theorem k_La_law_1029 {p : Program} {l : Launch} {e : Env} {s : State} {m : MethodId} {below : List Frame} {meth : Method} {c : Code} {D : va_G} {AC : Nat → ClassId} {e0 mi : Nat} {x0 L : Nat} {xs : Nat → Int32} {K23 : Option Nat → Option Nat → Option Nat → Int32 → Wd → Nat → Nat → Prop} (C : Cx p l s m #[Value.ref x0] meth c D AC e0 mi (fun q : Nat => s.heap.size ≤ q) n_La_law b_La_law 7 (some .boolean)) (hX : va_X x0 L xs s s.heap) (hbl : x0 < s.heap.size) (hK23 : ∀ (x1 : Option Nat) (x2 : Option Nat) (x3 : Option Nat) (x4 : Int32) (w : Wd) (nc ns : Nat), K23 x1 x2 x3 x4 w nc ns → ∀ (H : Heap) (locs : List Loc) (cells slots : Nat) (ls : Array Slot), HW D cls8 FTc AC (fun q : Nat => s.heap.size ≤ q) s.heap H locs w → lv_has ls 7 [(0, va_rf (some x0)), (1, va_rf x1), (2, va_rf x2), (3, va_rf x3), (4, .int x4)] → cells + nc ≤ 600002 → slots + ns ≤ 7302231 → W p l e room_1 s m #[Value.ref x0] below meth c H locs cells slots (lw_Z below #[Value.ref x0] s) (F0 m 23 ls [])) (x1 : Option Nat) (x2 : Option Nat) (x3 : Option Nat) (x4 : Int32) (x5 : Int32) (x6 : Int32) (w : Wd) (nc ns : Nat) (hq : wb_La_law_1029 e0 mi K23 L xs x1 x2 x3 x4 x5 x6 w nc ns) : ∀ (H : Heap) (locs : List Loc) (cells slots : Nat) (ls : Array Slot), HW D cls8 FTc AC (fun q : Nat => s.heap.size ≤ q) s.heap H locs w → lv_has ls 7 [(0, va_rf (some x0)), (1, va_rf x1), (2, va_rf x2), (3, va_rf x3), (4, .int x4), (5, .int x5), (6, .int x6)] → cells + nc ≤ 600002 → slots + ns ≤ 7302231 → W p l e room_1 s m #[Value.ref x0] below meth c H locs cells slots (lw_Z below #[Value.ref x0] s) (F0 m 1029 ls []) := by
  obtain ⟨hl0, hx, hb, hr, ht, hown, hlocks, hnm, hml, hex, hK, hA, hZ, hV⟩ := id C
  have hbA : ¬ (fun q : Nat => s.heap.size ≤ q) x0 := Nat.not_le.mpr hbl
  intro H locs cells slots ls hW hl hc hs
  unfold wb_La_law_1029 at hq
  refine lv_goto (tgt := 1225) hx hb d_La_law_1029 (by decide) ?_
  exact k_La_law_1225 C hX hbl hK23 _ _ _ _ _ _ _ hq _ _ _ _ _ hW (lv_sub hl [0, 1, 2, 3, 4] rfl) hc hs
def wb_La_law_961 (e0 mi : Nat) (K23 : Option Nat → Option Nat → Option Nat → Int32 → Wd → Nat → Nat → Prop) (L : Nat) (xs : Nat → Int32) (x1 : Option Nat) (x2 : Option Nat) (x3 : Option Nat) (x4 : Int32) (x5 : Int32) (x6 : Int32) (w : Wd) (nc ns : Nat) : Prop :=
  wb_La_law_1225 e0 mi K23 L xs x1 x2 x3 x4 w nc ns
set_option maxHeartbeats 4000000 in
set_option maxRecDepth 100000 in
theorem k_La_law_961 {p : Program} {l : Launch} {e : Env} {s : State} {m : MethodId} {below : List Frame} {meth : Method} {c : Code} {D : va_G} {AC : Nat → ClassId} {e0 mi : Nat} {x0 L : Nat} {xs : Nat → Int32} {K23 : Option Nat → Option Nat → Option Nat → Int32 → Wd → Nat → Nat → Prop} (C : Cx p l s m #[Value.ref x0] meth c D AC e0 mi (fun q : Nat => s.heap.size ≤ q) n_La_law b_La_law 7 (some .boolean)) (hX : va_X x0 L xs s s.heap) (hbl : x0 < s.heap.size) (hK23 : ∀ (x1 : Option Nat) (x2 : Option Nat) (x3 : Option Nat) (x4 : Int32) (w : Wd) (nc ns : Nat), K23 x1 x2 x3 x4 w nc ns → ∀ (H : Heap) (locs : List Loc) (cells slots : Nat) (ls : Array Slot), HW D cls8 FTc AC (fun q : Nat => s.heap.size ≤ q) s.heap H locs w → lv_has ls 7 [(0, va_rf (some x0)), (1, va_rf x1), (2, va_rf x2), (3, va_rf x3), (4, .int x4)] → cells + nc ≤ 600002 → slots + ns ≤ 7302231 → W p l e room_1 s m #[Value.ref x0] below meth c H locs cells slots (lw_Z below #[Value.ref x0] s) (F0 m 23 ls [])) (x1 : Option Nat) (x2 : Option Nat) (x3 : Option Nat) (x4 : Int32) (x5 : Int32) (x6 : Int32) (w : Wd) (nc ns : Nat) (hq : wb_La_law_961 e0 mi K23 L xs x1 x2 x3 x4 x5 x6 w nc ns) : ∀ (H : Heap) (locs : List Loc) (cells slots : Nat) (ls : Array Slot), HW D cls8 FTc AC (fun q : Nat => s.heap.size ≤ q) s.heap H locs w → lv_has ls 7 [(0, va_rf (some x0)), (1, va_rf x1), (2, va_rf x2), (3, va_rf x3), (4, .int x4), (5, .int x5), (6, .int x6)] → cells + nc ≤ 600002 → slots + ns ≤ 7302231 → W p l e room_1 s m #[Value.ref x0] below meth c H locs cells slots (lw_Z below #[Value.ref x0] s) (F0 m 961 ls []) := by
  obtain ⟨hl0, hx, hb, hr, ht, hown, hlocks, hnm, hml, hex, hK, hA, hZ, hV⟩ := id C
  have hbA : ¬ (fun q : Nat => s.heap.size ≤ q) x0 := Nat.not_le.mpr hbl
  intro H locs cells slots ls hW hl hc hs
  unfold wb_La_law_961 at hq
  refine lv_goto (tgt := 1225) hx hb d_La_law_961 (by decide) ?_
  exact k_La_law_1225 C hX hbl hK23 _ _ _ _ _ _ _ hq _ _ _ _ _ hW (lv_sub hl [0, 1, 2, 3, 4] rfl) hc hs
def wb_La_law_893 (e0 mi : Nat) (K23 : Option Nat → Option Nat → Option Nat → Int32 → Wd → Nat → Nat → Prop) (L : Nat) (xs : Nat → Int32) (x1 : Option Nat) (x2 : Option Nat) (x3 : Option Nat) (x4 : Int32) (x5 : Int32) (x6 : Int32) (w : Wd) (nc ns : Nat) : Prop :=
  wb_La_law_1225 e0 mi K23 L xs x1 x2 x3 x4 w nc ns
set_option maxHeartbeats 4000000 in
set_option maxRecDepth 100000 in
theorem k_La_law_893 {p : Program} {l : Launch} {e : Env} {s : State} {m : MethodId} {below : List Frame} {meth : Method} {c : Code} {D : va_G} {AC : Nat → ClassId} {e0 mi : Nat} {x0 L : Nat} {xs : Nat → Int32} {K23 : Option Nat → Option Nat → Option Nat → Int32 → Wd → Nat → Nat → Prop} (C : Cx p l s m #[Value.ref x0] meth c D AC e0 mi (fun q : Nat => s.heap.size ≤ q) n_La_law b_La_law 7 (some .boolean)) (hX : va_X x0 L xs s s.heap) (hbl : x0 < s.heap.size) (hK23 : ∀ (x1 : Option Nat) (x2 : Option Nat) (x3 : Option Nat) (x4 : Int32) (w : Wd) (nc ns : Nat), K23 x1 x2 x3 x4 w nc ns → ∀ (H : Heap) (locs : List Loc) (cells slots : Nat) (ls : Array Slot), HW D cls8 FTc AC (fun q : Nat => s.heap.size ≤ q) s.heap H locs w → lv_has ls 7 [(0, va_rf (some x0)), (1, va_rf x1), (2, va_rf x2), (3, va_rf x3), (4, .int x4)] → cells + nc ≤ 600002 → slots + ns ≤ 7302231 → W p l e room_1 s m #[Value.ref x0] below meth c H locs cells slots (lw_Z below #[Value.ref x0] s) (F0 m 23 ls [])) (x1 : Option Nat) (x2 : Option Nat) (x3 : Option Nat) (x4 : Int32) (x5 : Int32) (x6 : Int32) (w : Wd) (nc ns : Nat) (hq : wb_La_law_893 e0 mi K23 L xs x1 x2 x3 x4 x5 x6 w nc ns) : ∀ (H : Heap) (locs : List Loc) (cells slots : Nat) (ls : Array Slot), HW D cls8 FTc AC (fun q : Nat => s.heap.size ≤ q) s.heap H locs w → lv_has ls 7 [(0, va_rf (some x0)), (1, va_rf x1), (2, va_rf x2), (3, va_rf x3), (4, .int x4), (5, .int x5), (6, .int x6)] → cells + nc ≤ 600002 → slots + ns ≤ 7302231 → W p l e room_1 s m #[Value.ref x0] below meth c H locs cells slots (lw_Z below #[Value.ref x0] s) (F0 m 893 ls []) := by
  obtain ⟨hl0, hx, hb, hr, ht, hown, hlocks, hnm, hml, hex, hK, hA, hZ, hV⟩ := id C
  have hbA : ¬ (fun q : Nat => s.heap.size ≤ q) x0 := Nat.not_le.mpr hbl
  intro H locs cells slots ls hW hl hc hs
  unfold wb_La_law_893 at hq
  refine lv_goto (tgt := 1225) hx hb d_La_law_893 (by decide) ?_
  exact k_La_law_1225 C hX hbl hK23 _ _ _ _ _ _ _ hq _ _ _ _ _ hW (lv_sub hl [0, 1, 2, 3, 4] rfl) hc hs
def wb_La_law_801 (e0 mi : Nat) (K23 : Option Nat → Option Nat → Option Nat → Int32 → Wd → Nat → Nat → Prop) (L : Nat) (xs : Nat → Int32) (x1 : Option Nat) (x2 : Option Nat) (x3 : Option Nat) (x4 : Int32) (x5 : Int32) (x6 : Int32) (w : Wd) (nc ns : Nat) : Prop :=
  wb_La_law_1225 e0 mi K23 L xs x1 x2 x3 x4 w nc ns
set_option maxHeartbeats 4000000 in
set_option maxRecDepth 100000 in
theorem k_La_law_801 {p : Program} {l : Launch} {e : Env} {s : State} {m : MethodId} {below : List Frame} {meth : Method} {c : Code} {D : va_G} {AC : Nat → ClassId} {e0 mi : Nat} {x0 L : Nat} {xs : Nat → Int32} {K23 : Option Nat → Option Nat → Option Nat → Int32 → Wd → Nat → Nat → Prop} (C : Cx p l s m #[Value.ref x0] meth c D AC e0 mi (fun q : Nat => s.heap.size ≤ q) n_La_law b_La_law 7 (some .boolean)) (hX : va_X x0 L xs s s.heap) (hbl : x0 < s.heap.size) (hK23 : ∀ (x1 : Option Nat) (x2 : Option Nat) (x3 : Option Nat) (x4 : Int32) (w : Wd) (nc ns : Nat), K23 x1 x2 x3 x4 w nc ns → ∀ (H : Heap) (locs : List Loc) (cells slots : Nat) (ls : Array Slot), HW D cls8 FTc AC (fun q : Nat => s.heap.size ≤ q) s.heap H locs w → lv_has ls 7 [(0, va_rf (some x0)), (1, va_rf x1), (2, va_rf x2), (3, va_rf x3), (4, .int x4)] → cells + nc ≤ 600002 → slots + ns ≤ 7302231 → W p l e room_1 s m #[Value.ref x0] below meth c H locs cells slots (lw_Z below #[Value.ref x0] s) (F0 m 23 ls [])) (x1 : Option Nat) (x2 : Option Nat) (x3 : Option Nat) (x4 : Int32) (x5 : Int32) (x6 : Int32) (w : Wd) (nc ns : Nat) (hq : wb_La_law_801 e0 mi K23 L xs x1 x2 x3 x4 x5 x6 w nc ns) : ∀ (H : Heap) (locs : List Loc) (cells slots : Nat) (ls : Array Slot), HW D cls8 FTc AC (fun q : Nat => s.heap.size ≤ q) s.heap H locs w → lv_has ls 7 [(0, va_rf (some x0)), (1, va_rf x1), (2, va_rf x2), (3, va_rf x3), (4, .int x4), (5, .int x5), (6, .int x6)] → cells + nc ≤ 600002 → slots + ns ≤ 7302231 → W p l e room_1 s m #[Value.ref x0] below meth c H locs cells slots (lw_Z below #[Value.ref x0] s) (F0 m 801 ls []) := by
  obtain ⟨hl0, hx, hb, hr, ht, hown, hlocks, hnm, hml, hex, hK, hA, hZ, hV⟩ := id C
  have hbA : ¬ (fun q : Nat => s.heap.size ≤ q) x0 := Nat.not_le.mpr hbl
  intro H locs cells slots ls hW hl hc hs
  unfold wb_La_law_801 at hq
  refine lv_goto (tgt := 1225) hx hb d_La_law_801 (by decide) ?_
  exact k_La_law_1225 C hX hbl hK23 _ _ _ _ _ _ _ hq _ _ _ _ _ hW (lv_sub hl [0, 1, 2, 3, 4] rfl) hc hs
def wb_La_law_733 (e0 mi : Nat) (K23 : Option Nat → Option Nat → Option Nat → Int32 → Wd → Nat → Nat → Prop) (L : Nat) (xs : Nat → Int32) (x1 : Option Nat) (x2 : Option Nat) (x3 : Option Nat) (x4 : Int32) (x5 : Int32) (x6 : Int32) (w : Wd) (nc ns : Nat) : Prop :=
  wb_La_law_1225 e0 mi K23 L xs x1 x2 x3 x4 w nc ns
set_option maxHeartbeats 4000000 in
set_option maxRecDepth 100000 in
theorem k_La_law_733 {p : Program} {l : Launch} {e : Env} {s : State} {m : MethodId} {below : List Frame} {meth : Method} {c : Code} {D : va_G} {AC : Nat → ClassId} {e0 mi : Nat} {x0 L : Nat} {xs : Nat → Int32} {K23 : Option Nat → Option Nat → Option Nat → Int32 → Wd → Nat → Nat → Prop} (C : Cx p l s m #[Value.ref x0] meth c D AC e0 mi (fun q : Nat => s.heap.size ≤ q) n_La_law b_La_law 7 (some .boolean)) (hX : va_X x0 L xs s s.heap) (hbl : x0 < s.heap.size) (hK23 : ∀ (x1 : Option Nat) (x2 : Option Nat) (x3 : Option Nat) (x4 : Int32) (w : Wd) (nc ns : Nat), K23 x1 x2 x3 x4 w nc ns → ∀ (H : Heap) (locs : List Loc) (cells slots : Nat) (ls : Array Slot), HW D cls8 FTc AC (fun q : Nat => s.heap.size ≤ q) s.heap H locs w → lv_has ls 7 [(0, va_rf (some x0)), (1, va_rf x1), (2, va_rf x2), (3, va_rf x3), (4, .int x4)] → cells + nc ≤ 600002 → slots + ns ≤ 7302231 → W p l e room_1 s m #[Value.ref x0] below meth c H locs cells slots (lw_Z below #[Value.ref x0] s) (F0 m 23 ls [])) (x1 : Option Nat) (x2 : Option Nat) (x3 : Option Nat) (x4 : Int32) (x5 : Int32) (x6 : Int32) (w : Wd) (nc ns : Nat) (hq : wb_La_law_733 e0 mi K23 L xs x1 x2 x3 x4 x5 x6 w nc ns) : ∀ (H : Heap) (locs : List Loc) (cells slots : Nat) (ls : Array Slot), HW D cls8 FTc AC (fun q : Nat => s.heap.size ≤ q) s.heap H locs w → lv_has ls 7 [(0, va_rf (some x0)), (1, va_rf x1), (2, va_rf x2), (3, va_rf x3), (4, .int x4), (5, .int x5), (6, .int x6)] → cells + nc ≤ 600002 → slots + ns ≤ 7302231 → W p l e room_1 s m #[Value.ref x0] below meth c H locs cells slots (lw_Z below #[Value.ref x0] s) (F0 m 733 ls []) := by
  obtain ⟨hl0, hx, hb, hr, ht, hown, hlocks, hnm, hml, hex, hK, hA, hZ, hV⟩ := id C
  have hbA : ¬ (fun q : Nat => s.heap.size ≤ q) x0 := Nat.not_le.mpr hbl
  intro H locs cells slots ls hW hl hc hs
  unfold wb_La_law_733 at hq
  refine lv_goto (tgt := 1225) hx hb d_La_law_733 (by decide) ?_
  exact k_La_law_1225 C hX hbl hK23 _ _ _ _ _ _ _ hq _ _ _ _ _ hW (lv_sub hl [0, 1, 2, 3, 4] rfl) hc hs
def wb_La_law_665 (e0 mi : Nat) (K23 : Option Nat → Option Nat → Option Nat → Int32 → Wd → Nat → Nat → Prop) (L : Nat) (xs : Nat → Int32) (x1 : Option Nat) (x2 : Option Nat) (x3 : Option Nat) (x4 : Int32) (x5 : Int32) (x6 : Int32) (w : Wd) (nc ns : Nat) : Prop :=
  wb_La_law_1225 e0 mi K23 L xs x1 x2 x3 x4 w nc ns
set_option maxHeartbeats 4000000 in
set_option maxRecDepth 100000 in
theorem k_La_law_665 {p : Program} {l : Launch} {e : Env} {s : State} {m : MethodId} {below : List Frame} {meth : Method} {c : Code} {D : va_G} {AC : Nat → ClassId} {e0 mi : Nat} {x0 L : Nat} {xs : Nat → Int32} {K23 : Option Nat → Option Nat → Option Nat → Int32 → Wd → Nat → Nat → Prop} (C : Cx p l s m #[Value.ref x0] meth c D AC e0 mi (fun q : Nat => s.heap.size ≤ q) n_La_law b_La_law 7 (some .boolean)) (hX : va_X x0 L xs s s.heap) (hbl : x0 < s.heap.size) (hK23 : ∀ (x1 : Option Nat) (x2 : Option Nat) (x3 : Option Nat) (x4 : Int32) (w : Wd) (nc ns : Nat), K23 x1 x2 x3 x4 w nc ns → ∀ (H : Heap) (locs : List Loc) (cells slots : Nat) (ls : Array Slot), HW D cls8 FTc AC (fun q : Nat => s.heap.size ≤ q) s.heap H locs w → lv_has ls 7 [(0, va_rf (some x0)), (1, va_rf x1), (2, va_rf x2), (3, va_rf x3), (4, .int x4)] → cells + nc ≤ 600002 → slots + ns ≤ 7302231 → W p l e room_1 s m #[Value.ref x0] below meth c H locs cells slots (lw_Z below #[Value.ref x0] s) (F0 m 23 ls [])) (x1 : Option Nat) (x2 : Option Nat) (x3 : Option Nat) (x4 : Int32) (x5 : Int32) (x6 : Int32) (w : Wd) (nc ns : Nat) (hq : wb_La_law_665 e0 mi K23 L xs x1 x2 x3 x4 x5 x6 w nc ns) : ∀ (H : Heap) (locs : List Loc) (cells slots : Nat) (ls : Array Slot), HW D cls8 FTc AC (fun q : Nat => s.heap.size ≤ q) s.heap H locs w → lv_has ls 7 [(0, va_rf (some x0)), (1, va_rf x1), (2, va_rf x2), (3, va_rf x3), (4, .int x4), (5, .int x5), (6, .int x6)] → cells + nc ≤ 600002 → slots + ns ≤ 7302231 → W p l e room_1 s m #[Value.ref x0] below meth c H locs cells slots (lw_Z below #[Value.ref x0] s) (F0 m 665 ls []) := by
  obtain ⟨hl0, hx, hb, hr, ht, hown, hlocks, hnm, hml, hex, hK, hA, hZ, hV⟩ := id C
  have hbA : ¬ (fun q : Nat => s.heap.size ≤ q) x0 := Nat.not_le.mpr hbl
  intro H locs cells slots ls hW hl hc hs
  unfold wb_La_law_665 at hq
  refine lv_goto (tgt := 1225) hx hb d_La_law_665 (by decide) ?_
  exact k_La_law_1225 C hX hbl hK23 _ _ _ _ _ _ _ hq _ _ _ _ _ hW (lv_sub hl [0, 1, 2, 3, 4] rfl) hc hs
def wb_La_law_609 (e0 mi : Nat) (K23 : Option Nat → Option Nat → Option Nat → Int32 → Wd → Nat → Nat → Prop) (L : Nat) (xs : Nat → Int32) (x1 : Option Nat) (x2 : Option Nat) (x3 : Option Nat) (x4 : Int32) (x5 : Int32) (x6 : Int32) (w : Wd) (nc ns : Nat) : Prop :=
  wb_La_law_1225 e0 mi K23 L xs x1 x2 x3 x4 w nc ns
set_option maxHeartbeats 4000000 in
set_option maxRecDepth 100000 in
theorem k_La_law_609 {p : Program} {l : Launch} {e : Env} {s : State} {m : MethodId} {below : List Frame} {meth : Method} {c : Code} {D : va_G} {AC : Nat → ClassId} {e0 mi : Nat} {x0 L : Nat} {xs : Nat → Int32} {K23 : Option Nat → Option Nat → Option Nat → Int32 → Wd → Nat → Nat → Prop} (C : Cx p l s m #[Value.ref x0] meth c D AC e0 mi (fun q : Nat => s.heap.size ≤ q) n_La_law b_La_law 7 (some .boolean)) (hX : va_X x0 L xs s s.heap) (hbl : x0 < s.heap.size) (hK23 : ∀ (x1 : Option Nat) (x2 : Option Nat) (x3 : Option Nat) (x4 : Int32) (w : Wd) (nc ns : Nat), K23 x1 x2 x3 x4 w nc ns → ∀ (H : Heap) (locs : List Loc) (cells slots : Nat) (ls : Array Slot), HW D cls8 FTc AC (fun q : Nat => s.heap.size ≤ q) s.heap H locs w → lv_has ls 7 [(0, va_rf (some x0)), (1, va_rf x1), (2, va_rf x2), (3, va_rf x3), (4, .int x4)] → cells + nc ≤ 600002 → slots + ns ≤ 7302231 → W p l e room_1 s m #[Value.ref x0] below meth c H locs cells slots (lw_Z below #[Value.ref x0] s) (F0 m 23 ls [])) (x1 : Option Nat) (x2 : Option Nat) (x3 : Option Nat) (x4 : Int32) (x5 : Int32) (x6 : Int32) (w : Wd) (nc ns : Nat) (hq : wb_La_law_609 e0 mi K23 L xs x1 x2 x3 x4 x5 x6 w nc ns) : ∀ (H : Heap) (locs : List Loc) (cells slots : Nat) (ls : Array Slot), HW D cls8 FTc AC (fun q : Nat => s.heap.size ≤ q) s.heap H locs w → lv_has ls 7 [(0, va_rf (some x0)), (1, va_rf x1), (2, va_rf x2), (3, va_rf x3), (4, .int x4), (5, .int x5), (6, .int x6)] → cells + nc ≤ 600002 → slots + ns ≤ 7302231 → W p l e room_1 s m #[Value.ref x0] below meth c H locs cells slots (lw_Z below #[Value.ref x0] s) (F0 m 609 ls []) := by
  obtain ⟨hl0, hx, hb, hr, ht, hown, hlocks, hnm, hml, hex, hK, hA, hZ, hV⟩ := id C
  have hbA : ¬ (fun q : Nat => s.heap.size ≤ q) x0 := Nat.not_le.mpr hbl
  intro H locs cells slots ls hW hl hc hs
  unfold wb_La_law_609 at hq
  refine lv_goto (tgt := 1225) hx hb d_La_law_609 (by decide) ?_
  exact k_La_law_1225 C hX hbl hK23 _ _ _ _ _ _ _ hq _ _ _ _ _ hW (lv_sub hl [0, 1, 2, 3, 4] rfl) hc hs
def wb_La_law_541 (e0 mi : Nat) (K23 : Option Nat → Option Nat → Option Nat → Int32 → Wd → Nat → Nat → Prop) (L : Nat) (xs : Nat → Int32) (x1 : Option Nat) (x2 : Option Nat) (x3 : Option Nat) (x4 : Int32) (x5 : Int32) (x6 : Int32) (w : Wd) (nc ns : Nat) : Prop :=
  wb_La_law_1225 e0 mi K23 L xs x1 x2 x3 x4 w nc ns
set_option maxHeartbeats 4000000 in
set_option maxRecDepth 100000 in
theorem k_La_law_541 {p : Program} {l : Launch} {e : Env} {s : State} {m : MethodId} {below : List Frame} {meth : Method} {c : Code} {D : va_G} {AC : Nat → ClassId} {e0 mi : Nat} {x0 L : Nat} {xs : Nat → Int32} {K23 : Option Nat → Option Nat → Option Nat → Int32 → Wd → Nat → Nat → Prop} (C : Cx p l s m #[Value.ref x0] meth c D AC e0 mi (fun q : Nat => s.heap.size ≤ q) n_La_law b_La_law 7 (some .boolean)) (hX : va_X x0 L xs s s.heap) (hbl : x0 < s.heap.size) (hK23 : ∀ (x1 : Option Nat) (x2 : Option Nat) (x3 : Option Nat) (x4 : Int32) (w : Wd) (nc ns : Nat), K23 x1 x2 x3 x4 w nc ns → ∀ (H : Heap) (locs : List Loc) (cells slots : Nat) (ls : Array Slot), HW D cls8 FTc AC (fun q : Nat => s.heap.size ≤ q) s.heap H locs w → lv_has ls 7 [(0, va_rf (some x0)), (1, va_rf x1), (2, va_rf x2), (3, va_rf x3), (4, .int x4)] → cells + nc ≤ 600002 → slots + ns ≤ 7302231 → W p l e room_1 s m #[Value.ref x0] below meth c H locs cells slots (lw_Z below #[Value.ref x0] s) (F0 m 23 ls [])) (x1 : Option Nat) (x2 : Option Nat) (x3 : Option Nat) (x4 : Int32) (x5 : Int32) (x6 : Int32) (w : Wd) (nc ns : Nat) (hq : wb_La_law_541 e0 mi K23 L xs x1 x2 x3 x4 x5 x6 w nc ns) : ∀ (H : Heap) (locs : List Loc) (cells slots : Nat) (ls : Array Slot), HW D cls8 FTc AC (fun q : Nat => s.heap.size ≤ q) s.heap H locs w → lv_has ls 7 [(0, va_rf (some x0)), (1, va_rf x1), (2, va_rf x2), (3, va_rf x3), (4, .int x4), (5, .int x5), (6, .int x6)] → cells + nc ≤ 600002 → slots + ns ≤ 7302231 → W p l e room_1 s m #[Value.ref x0] below meth c H locs cells slots (lw_Z below #[Value.ref x0] s) (F0 m 541 ls []) := by
  obtain ⟨hl0, hx, hb, hr, ht, hown, hlocks, hnm, hml, hex, hK, hA, hZ, hV⟩ := id C
  have hbA : ¬ (fun q : Nat => s.heap.size ≤ q) x0 := Nat.not_le.mpr hbl
  intro H locs cells slots ls hW hl hc hs
  unfold wb_La_law_541 at hq
  refine lv_goto (tgt := 1225) hx hb d_La_law_541 (by decide) ?_
  exact k_La_law_1225 C hX hbl hK23 _ _ _ _ _ _ _ hq _ _ _ _ _ hW (lv_sub hl [0, 1, 2, 3, 4] rfl) hc hs
def wb_La_law_473 (e0 mi : Nat) (K23 : Option Nat → Option Nat → Option Nat → Int32 → Wd → Nat → Nat → Prop) (L : Nat) (xs : Nat → Int32) (x1 : Option Nat) (x2 : Option Nat) (x3 : Option Nat) (x4 : Int32) (x5 : Int32) (x6 : Int32) (w : Wd) (nc ns : Nat) : Prop :=
  wb_La_law_1225 e0 mi K23 L xs x1 x2 x3 x4 w nc ns
set_option maxHeartbeats 4000000 in
set_option maxRecDepth 100000 in
theorem k_La_law_473 {p : Program} {l : Launch} {e : Env} {s : State} {m : MethodId} {below : List Frame} {meth : Method} {c : Code} {D : va_G} {AC : Nat → ClassId} {e0 mi : Nat} {x0 L : Nat} {xs : Nat → Int32} {K23 : Option Nat → Option Nat → Option Nat → Int32 → Wd → Nat → Nat → Prop} (C : Cx p l s m #[Value.ref x0] meth c D AC e0 mi (fun q : Nat => s.heap.size ≤ q) n_La_law b_La_law 7 (some .boolean)) (hX : va_X x0 L xs s s.heap) (hbl : x0 < s.heap.size) (hK23 : ∀ (x1 : Option Nat) (x2 : Option Nat) (x3 : Option Nat) (x4 : Int32) (w : Wd) (nc ns : Nat), K23 x1 x2 x3 x4 w nc ns → ∀ (H : Heap) (locs : List Loc) (cells slots : Nat) (ls : Array Slot), HW D cls8 FTc AC (fun q : Nat => s.heap.size ≤ q) s.heap H locs w → lv_has ls 7 [(0, va_rf (some x0)), (1, va_rf x1), (2, va_rf x2), (3, va_rf x3), (4, .int x4)] → cells + nc ≤ 600002 → slots + ns ≤ 7302231 → W p l e room_1 s m #[Value.ref x0] below meth c H locs cells slots (lw_Z below #[Value.ref x0] s) (F0 m 23 ls [])) (x1 : Option Nat) (x2 : Option Nat) (x3 : Option Nat) (x4 : Int32) (x5 : Int32) (x6 : Int32) (w : Wd) (nc ns : Nat) (hq : wb_La_law_473 e0 mi K23 L xs x1 x2 x3 x4 x5 x6 w nc ns) : ∀ (H : Heap) (locs : List Loc) (cells slots : Nat) (ls : Array Slot), HW D cls8 FTc AC (fun q : Nat => s.heap.size ≤ q) s.heap H locs w → lv_has ls 7 [(0, va_rf (some x0)), (1, va_rf x1), (2, va_rf x2), (3, va_rf x3), (4, .int x4), (5, .int x5), (6, .int x6)] → cells + nc ≤ 600002 → slots + ns ≤ 7302231 → W p l e room_1 s m #[Value.ref x0] below meth c H locs cells slots (lw_Z below #[Value.ref x0] s) (F0 m 473 ls []) := by
  obtain ⟨hl0, hx, hb, hr, ht, hown, hlocks, hnm, hml, hex, hK, hA, hZ, hV⟩ := id C
  have hbA : ¬ (fun q : Nat => s.heap.size ≤ q) x0 := Nat.not_le.mpr hbl
  intro H locs cells slots ls hW hl hc hs
  unfold wb_La_law_473 at hq
  refine lv_goto (tgt := 1225) hx hb d_La_law_473 (by decide) ?_
  exact k_La_law_1225 C hX hbl hK23 _ _ _ _ _ _ _ hq _ _ _ _ _ hW (lv_sub hl [0, 1, 2, 3, 4] rfl) hc hs
def wb_La_law_343 (e0 mi : Nat) (K23 : Option Nat → Option Nat → Option Nat → Int32 → Wd → Nat → Nat → Prop) (L : Nat) (xs : Nat → Int32) (x1 : Option Nat) (x2 : Option Nat) (x3 : Option Nat) (x4 : Int32) (x5 : Int32) (z0 : Option Nat) (z1 : Int32) (z2 : Int32) (z3 : Int32) (w : Wd) (nc ns : Nat) : Prop :=
  ∃ a1 : Nat, z0 = some a1 ∧ (bw_is w a1 6 ∧ (wp_Mo_run e0 mi a1 z1 z2 z3 w (fun w4 => ∃ a10 : Nat, x2 = some a10 ∧ (bw_is w4 a10 6 ∧ (wp_Mo_thrown e0 mi a10 w4 (fun i18 w13 => (i18 = x5 → (wb_La_law_1225 e0 mi K23 L xs x1 x2 x3 x4 w13 nc ns)) ∧ (¬ i18 = x5 → (False))))))))
set_option maxHeartbeats 4000000 in
set_option maxRecDepth 100000 in
theorem k_La_law_343 {p : Program} {l : Launch} {e : Env} {s : State} {m : MethodId} {below : List Frame} {meth : Method} {c : Code} {D : va_G} {AC : Nat → ClassId} {e0 mi : Nat} {x0 L : Nat} {xs : Nat → Int32} {K23 : Option Nat → Option Nat → Option Nat → Int32 → Wd → Nat → Nat → Prop} (C : Cx p l s m #[Value.ref x0] meth c D AC e0 mi (fun q : Nat => s.heap.size ≤ q) n_La_law b_La_law 7 (some .boolean)) (hX : va_X x0 L xs s s.heap) (hbl : x0 < s.heap.size) (hK23 : ∀ (x1 : Option Nat) (x2 : Option Nat) (x3 : Option Nat) (x4 : Int32) (w : Wd) (nc ns : Nat), K23 x1 x2 x3 x4 w nc ns → ∀ (H : Heap) (locs : List Loc) (cells slots : Nat) (ls : Array Slot), HW D cls8 FTc AC (fun q : Nat => s.heap.size ≤ q) s.heap H locs w → lv_has ls 7 [(0, va_rf (some x0)), (1, va_rf x1), (2, va_rf x2), (3, va_rf x3), (4, .int x4)] → cells + nc ≤ 600002 → slots + ns ≤ 7302231 → W p l e room_1 s m #[Value.ref x0] below meth c H locs cells slots (lw_Z below #[Value.ref x0] s) (F0 m 23 ls [])) (x1 : Option Nat) (x2 : Option Nat) (x3 : Option Nat) (x4 : Int32) (x5 : Int32) (z0 : Option Nat) (z1 : Int32) (z2 : Int32) (z3 : Int32) (w : Wd) (nc ns : Nat) (hq : wb_La_law_343 e0 mi K23 L xs x1 x2 x3 x4 x5 z0 z1 z2 z3 w nc ns) : ∀ (H : Heap) (locs : List Loc) (cells slots : Nat) (ls : Array Slot), HW D cls8 FTc AC (fun q : Nat => s.heap.size ≤ q) s.heap H locs w → lv_has ls 7 [(0, va_rf (some x0)), (1, va_rf x1), (2, va_rf x2), (3, va_rf x3), (4, .int x4), (5, .int x5)] → cells + nc ≤ 600002 → slots + ns ≤ 7302231 → W p l e room_1 s m #[Value.ref x0] below meth c H locs cells slots (lw_Z below #[Value.ref x0] s) (F0 m 343 ls [.int z3, .int z2, .int z1, va_rf z0]) := by
  obtain ⟨hl0, hx, hb, hr, ht, hown, hlocks, hnm, hml, hex, hK, hA, hZ, hV⟩ := id C
  have hbA : ¬ (fun q : Nat => s.heap.size ≤ q) x0 := Nat.not_le.mpr hbl
  intro H locs cells slots ls hW hl hc hs
  unfold wb_La_law_343 at hq
  obtain ⟨a1, ea1, hq⟩ := hq
  obtain ⟨t2, hq⟩ := hq
  refine bw_callV (As := [.int z1, .int z2, .int z3]) (rest := []) C hW ci_Mo_run m_863 m_864 m_865 d_La_law_343 ea1 t2 (by decide) rfl rfl rfl hl.1 (by decide) ⟨Nat.le_of_ble_eq_true rfl, Nat.le_of_ble_eq_true rfl⟩ ⟨Nat.le_trans (Nat.add_le_add_left (Nat.zero_le _) _) hc, Nat.le_trans (Nat.add_le_add_left (Nat.zero_le _) _) hs⟩ (c_Mo_run hl0 _ _ _ _ _ hq) (fun _ _ _ _ _ _ h => h.elim) (fun v3 w4 H locs hv hW => ?_)
  obtain ⟨rfl, hq⟩ := hv
  have hc := bw_bud0 hc
  have hs := bw_bud0 hs
  refine W.eq (g2 := F0 m 346 ls []) rfl ?_
  refine bw_aload_n hx hb d_La_law_346 rfl (lv_at hl 2 rfl) ?_
  obtain ⟨a10, ea10, hq⟩ := hq
  obtain ⟨t11, hq⟩ := hq
  refine bw_callV (As := []) (rest := []) C hW ci_Mo_thrown m_844 m_845 m_846 d_La_law_347 ea10 t11 (by decide) rfl rfl rfl hl.1 (by decide) ⟨Nat.le_of_ble_eq_true rfl, Nat.le_of_ble_eq_true rfl⟩ ⟨Nat.le_trans (Nat.add_le_add_left (Nat.zero_le _) _) hc, Nat.le_trans (Nat.add_le_add_left (Nat.zero_le _) _) hs⟩ (c_Mo_thrown hl0 _ _ hq) (fun _ _ _ _ _ _ h => h.elim) (fun v12 w13 H locs hv hW => ?_)
  obtain ⟨i18, rfl, hq⟩ := hv
  have hc := bw_bud0 hc
  have hs := bw_bud0 hs
  refine W.eq (g2 := F0 m 350 ls [.int i18]) rfl ?_
  refine lv_iload hx hb d_La_law_350 (lv_at hl 5 rfl) ?_
  refine lv_icmp_eq (tgt := 357) hx hb d_La_law_352 (by decide) (fun c19 => ?_) (fun c19 => ?_)
  · have hq := hq.1 c19
    refine lv_goto (tgt := 1225) hx hb d_La_law_357 (by decide) ?_
    exact k_La_law_1225 C hX hbl hK23 _ _ _ _ _ _ _ hq _ _ _ _ _ hW (lv_sub hl [0, 1, 2, 3, 4] rfl) hc hs
  · have hq := hq.2 c19
    refine lv_iconst (v := 0) hx hb d_La_law_355 (by decide) ?_
    exact hq.elim
def wb_La_law_311 (e0 mi : Nat) (K23 : Option Nat → Option Nat → Option Nat → Int32 → Wd → Nat → Nat → Prop) (L : Nat) (xs : Nat → Int32) (x1 : Option Nat) (x2 : Option Nat) (x3 : Option Nat) (x4 : Int32) (z0 : Option Nat) (z1 : Int32) (z2 : Int32) (z3 : Int32) (w : Wd) (nc ns : Nat) : Prop :=
  ∃ k3 k4 : Nat, k3 ≤ nc ∧ k4 ≤ ns ∧ wp_La_run e0 mi z0 z1 z2 z3 w k3 k4 (fun i7 w2 => vp_in (x4 + (1 : Int32)) L ∧ (vp_in (x4 + (2 : Int32)) L ∧ (vp_in (x4 + (3 : Int32)) L ∧ (((xs (x4 + (3 : Int32)).toNatClampNeg) = 0 → (wb_La_law_343 e0 mi K23 L xs x1 x2 x3 x4 i7 x2 (xs (x4 + (1 : Int32)).toNatClampNeg) (xs (x4 + (2 : Int32)).toNatClampNeg) (0 : Int32) w2 (nc - k3) (ns - k4))) ∧ (¬ (xs (x4 + (3 : Int32)).toNatClampNeg) = 0 → (wb_La_law_343 e0 mi K23 L xs x1 x2 x3 x4 i7 x2 (xs (x4 + (1 : Int32)).toNatClampNeg) (xs (x4 + (2 : Int32)).toNatClampNeg) (1 : Int32) w2 (nc - k3) (ns - k4)))))))
set_option maxHeartbeats 4000000 in
set_option maxRecDepth 100000 in
theorem k_La_law_311 {p : Program} {l : Launch} {e : Env} {s : State} {m : MethodId} {below : List Frame} {meth : Method} {c : Code} {D : va_G} {AC : Nat → ClassId} {e0 mi : Nat} {x0 L : Nat} {xs : Nat → Int32} {K23 : Option Nat → Option Nat → Option Nat → Int32 → Wd → Nat → Nat → Prop} (C : Cx p l s m #[Value.ref x0] meth c D AC e0 mi (fun q : Nat => s.heap.size ≤ q) n_La_law b_La_law 7 (some .boolean)) (hX : va_X x0 L xs s s.heap) (hbl : x0 < s.heap.size) (hK23 : ∀ (x1 : Option Nat) (x2 : Option Nat) (x3 : Option Nat) (x4 : Int32) (w : Wd) (nc ns : Nat), K23 x1 x2 x3 x4 w nc ns → ∀ (H : Heap) (locs : List Loc) (cells slots : Nat) (ls : Array Slot), HW D cls8 FTc AC (fun q : Nat => s.heap.size ≤ q) s.heap H locs w → lv_has ls 7 [(0, va_rf (some x0)), (1, va_rf x1), (2, va_rf x2), (3, va_rf x3), (4, .int x4)] → cells + nc ≤ 600002 → slots + ns ≤ 7302231 → W p l e room_1 s m #[Value.ref x0] below meth c H locs cells slots (lw_Z below #[Value.ref x0] s) (F0 m 23 ls [])) (x1 : Option Nat) (x2 : Option Nat) (x3 : Option Nat) (x4 : Int32) (z0 : Option Nat) (z1 : Int32) (z2 : Int32) (z3 : Int32) (w : Wd) (nc ns : Nat) (hq : wb_La_law_311 e0 mi K23 L xs x1 x2 x3 x4 z0 z1 z2 z3 w nc ns) : ∀ (H : Heap) (locs : List Loc) (cells slots : Nat) (ls : Array Slot), HW D cls8 FTc AC (fun q : Nat => s.heap.size ≤ q) s.heap H locs w → lv_has ls 7 [(0, va_rf (some x0)), (1, va_rf x1), (2, va_rf x2), (3, va_rf x3), (4, .int x4)] → cells + nc ≤ 600002 → slots + ns ≤ 7302231 → W p l e room_1 s m #[Value.ref x0] below meth c H locs cells slots (lw_Z below #[Value.ref x0] s) (F0 m 311 ls [.int z3, .int z2, .int z1, va_rf z0]) := by
  obtain ⟨hl0, hx, hb, hr, ht, hown, hlocks, hnm, hml, hex, hK, hA, hZ, hV⟩ := id C
  have hbA : ¬ (fun q : Nat => s.heap.size ≤ q) x0 := Nat.not_le.mpr hbl
  intro H locs cells slots ls hW hl hc hs
  unfold wb_La_law_311 at hq
  obtain ⟨k3, k4, h5, h6, hq⟩ := hq
  refine bw_callSW (nA := 4) (hh := [(0, 7, 10, 21), (0, 7, 14, 13)]) (As := [va_rf z0, .int z1, .int z2, .int z3]) (rest := []) C hW m_377 m_0 m_375 m_376 (by decide) (by decide +kernel) d_La_law_311 rfl rfl hl.1 (by decide) ⟨Nat.le_of_ble_eq_true rfl, Nat.le_of_ble_eq_true rfl⟩ ⟨Nat.le_trans (Nat.add_le_add_left h5 _) hc, Nat.le_trans (Nat.add_le_add_left h6 _) hs⟩ (c_La_run hl0 _ _ _ _ _ _ _ hq) (fun v1 w2 H locs hv hW => ?_)
  obtain ⟨i7, rfl, hq⟩ := hv
  have hc := bw_bud hc h5
  have hs := bw_bud hs h6
  refine W.eq (g2 := F0 m 314 ls [.int i7]) rfl ?_
  refine lv_istore (lv' := [(5, .int i7), (0, va_rf (some x0)), (1, va_rf x1), (2, va_rf x2), (3, va_rf x3), (4, .int x4)]) hx hb d_La_law_314 hl (by decide) (by simp [bw_cat, cat_i, cat_j]) (fun ls hl => ?_)
  refine bw_aload_n hx hb d_La_law_316 rfl (lv_at hl 3 rfl) ?_
  refine bw_aload_n hx hb d_La_law_317 rfl (lv_at hl 1 rfl) ?_
  refine lv_iload hx hb d_La_law_318 (lv_at hl 5 rfl) ?_
  refine lv_iconst (v := 1) hx hb d_La_law_320 (by decide) ?_
  refine lv_iadd hx hb d_La_law_321 ?_
  obtain ⟨h8, hq⟩ := hq
  refine va_sld hx hb hX hbl hbA hW.2.2 h8 d_La_law_322 ?_
  refine bw_aload_n hx hb d_La_law_323 rfl (lv_at hl 1 rfl) ?_
  refine lv_iload hx hb d_La_law_324 (lv_at hl 5 rfl) ?_
  refine lv_iconst (v := 2) hx hb d_La_law_326 (by decide) ?_
  refine lv_iadd hx hb d_La_law_327 ?_
  obtain ⟨h9, hq⟩ := hq
  refine va_sld hx hb hX hbl hbA hW.2.2 h9 d_La_law_328 ?_
  refine bw_aload_n hx hb d_La_law_329 rfl (lv_at hl 1 rfl) ?_
  refine lv_iload hx hb d_La_law_330 (lv_at hl 5 rfl) ?_
  refine lv_iconst (v := 3) hx hb d_La_law_332 (by decide) ?_
  refine lv_iadd hx hb d_La_law_333 ?_
  obtain ⟨h10, hq⟩ := hq
  refine va_sld hx hb hX hbl hbA hW.2.2 h10 d_La_law_334 ?_
  refine lv_if_eq (tgt := 342) hx hb d_La_law_335 (by decide) (fun c11 => ?_) (fun c11 => ?_)
  · have hq := hq.1 c11
    refine lv_iconst (v := 0) hx hb d_La_law_342 (by decide) ?_
    exact k_La_law_343 C hX hbl hK23 _ _ _ _ _ _ _ _ _ _ _ _ hq _ _ _ _ _ hW (lv_sub hl [1, 2, 3, 4, 5, 0] rfl) hc hs
  · have hq := hq.2 c11
    refine lv_iconst (v := 1) hx hb d_La_law_338 (by decide) ?_
    refine lv_goto (tgt := 343) hx hb d_La_law_339 (by decide) ?_
    exact k_La_law_343 C hX hbl hK23 _ _ _ _ _ _ _ _ _ _ _ _ hq _ _ _ _ _ hW (lv_sub hl [1, 2, 3, 4, 5, 0] rfl) hc hs
def wb_La_law_281 (e0 mi : Nat) (K23 : Option Nat → Option Nat → Option Nat → Int32 → Wd → Nat → Nat → Prop) (L : Nat) (xs : Nat → Int32) (x1 : Option Nat) (x2 : Option Nat) (x3 : Option Nat) (x4 : Int32) (x5 : Int32) (x6 : Int32) (w : Wd) (nc ns : Nat) : Prop :=
  wb_La_law_1225 e0 mi K23 L xs x1 x2 x3 x4 w nc ns
set_option maxHeartbeats 4000000 in
set_option maxRecDepth 100000 in
theorem k_La_law_281 {p : Program} {l : Launch} {e : Env} {s : State} {m : MethodId} {below : List Frame} {meth : Method} {c : Code} {D : va_G} {AC : Nat → ClassId} {e0 mi : Nat} {x0 L : Nat} {xs : Nat → Int32} {K23 : Option Nat → Option Nat → Option Nat → Int32 → Wd → Nat → Nat → Prop} (C : Cx p l s m #[Value.ref x0] meth c D AC e0 mi (fun q : Nat => s.heap.size ≤ q) n_La_law b_La_law 7 (some .boolean)) (hX : va_X x0 L xs s s.heap) (hbl : x0 < s.heap.size) (hK23 : ∀ (x1 : Option Nat) (x2 : Option Nat) (x3 : Option Nat) (x4 : Int32) (w : Wd) (nc ns : Nat), K23 x1 x2 x3 x4 w nc ns → ∀ (H : Heap) (locs : List Loc) (cells slots : Nat) (ls : Array Slot), HW D cls8 FTc AC (fun q : Nat => s.heap.size ≤ q) s.heap H locs w → lv_has ls 7 [(0, va_rf (some x0)), (1, va_rf x1), (2, va_rf x2), (3, va_rf x3), (4, .int x4)] → cells + nc ≤ 600002 → slots + ns ≤ 7302231 → W p l e room_1 s m #[Value.ref x0] below meth c H locs cells slots (lw_Z below #[Value.ref x0] s) (F0 m 23 ls [])) (x1 : Option Nat) (x2 : Option Nat) (x3 : Option Nat) (x4 : Int32) (x5 : Int32) (x6 : Int32) (w : Wd) (nc ns : Nat) (hq : wb_La_law_281 e0 mi K23 L xs x1 x2 x3 x4 x5 x6 w nc ns) : ∀ (H : Heap) (locs : List Loc) (cells slots : Nat) (ls : Array Slot), HW D cls8 FTc AC (fun q : Nat => s.heap.size ≤ q) s.heap H locs w → lv_has ls 7 [(0, va_rf (some x0)), (1, va_rf x1), (2, va_rf x2), (3, va_rf x3), (4, .int x4), (5, .int x5), (6, .int x6)] → cells + nc ≤ 600002 → slots + ns ≤ 7302231 → W p l e room_1 s m #[Value.ref x0] below meth c H locs cells slots (lw_Z below #[Value.ref x0] s) (F0 m 281 ls []) := by
  obtain ⟨hl0, hx, hb, hr, ht, hown, hlocks, hnm, hml, hex, hK, hA, hZ, hV⟩ := id C
  have hbA : ¬ (fun q : Nat => s.heap.size ≤ q) x0 := Nat.not_le.mpr hbl
  intro H locs cells slots ls hW hl hc hs
  unfold wb_La_law_281 at hq
  refine lv_goto (tgt := 1225) hx hb d_La_law_281 (by decide) ?_
  exact k_La_law_1225 C hX hbl hK23 _ _ _ _ _ _ _ hq _ _ _ _ _ hW (lv_sub hl [0, 1, 2, 3, 4] rfl) hc hs
def wb_La_law_189 (e0 mi : Nat) (K23 : Option Nat → Option Nat → Option Nat → Int32 → Wd → Nat → Nat → Prop) (L : Nat) (xs : Nat → Int32) (x1 : Option Nat) (x2 : Option Nat) (x3 : Option Nat) (x4 : Int32) (x5 : Int32) (x6 : Int32) (w : Wd) (nc ns : Nat) : Prop :=
  wb_La_law_1225 e0 mi K23 L xs x1 x2 x3 x4 w nc ns
set_option maxHeartbeats 4000000 in
set_option maxRecDepth 100000 in
theorem k_La_law_189 {p : Program} {l : Launch} {e : Env} {s : State} {m : MethodId} {below : List Frame} {meth : Method} {c : Code} {D : va_G} {AC : Nat → ClassId} {e0 mi : Nat} {x0 L : Nat} {xs : Nat → Int32} {K23 : Option Nat → Option Nat → Option Nat → Int32 → Wd → Nat → Nat → Prop} (C : Cx p l s m #[Value.ref x0] meth c D AC e0 mi (fun q : Nat => s.heap.size ≤ q) n_La_law b_La_law 7 (some .boolean)) (hX : va_X x0 L xs s s.heap) (hbl : x0 < s.heap.size) (hK23 : ∀ (x1 : Option Nat) (x2 : Option Nat) (x3 : Option Nat) (x4 : Int32) (w : Wd) (nc ns : Nat), K23 x1 x2 x3 x4 w nc ns → ∀ (H : Heap) (locs : List Loc) (cells slots : Nat) (ls : Array Slot), HW D cls8 FTc AC (fun q : Nat => s.heap.size ≤ q) s.heap H locs w → lv_has ls 7 [(0, va_rf (some x0)), (1, va_rf x1), (2, va_rf x2), (3, va_rf x3), (4, .int x4)] → cells + nc ≤ 600002 → slots + ns ≤ 7302231 → W p l e room_1 s m #[Value.ref x0] below meth c H locs cells slots (lw_Z below #[Value.ref x0] s) (F0 m 23 ls [])) (x1 : Option Nat) (x2 : Option Nat) (x3 : Option Nat) (x4 : Int32) (x5 : Int32) (x6 : Int32) (w : Wd) (nc ns : Nat) (hq : wb_La_law_189 e0 mi K23 L xs x1 x2 x3 x4 x5 x6 w nc ns) : ∀ (H : Heap) (locs : List Loc) (cells slots : Nat) (ls : Array Slot), HW D cls8 FTc AC (fun q : Nat => s.heap.size ≤ q) s.heap H locs w → lv_has ls 7 [(0, va_rf (some x0)), (1, va_rf x1), (2, va_rf x2), (3, va_rf x3), (4, .int x4), (5, .int x5), (6, .int x6)] → cells + nc ≤ 600002 → slots + ns ≤ 7302231 → W p l e room_1 s m #[Value.ref x0] below meth c H locs cells slots (lw_Z below #[Value.ref x0] s) (F0 m 189 ls []) := by
  obtain ⟨hl0, hx, hb, hr, ht, hown, hlocks, hnm, hml, hex, hK, hA, hZ, hV⟩ := id C
  have hbA : ¬ (fun q : Nat => s.heap.size ≤ q) x0 := Nat.not_le.mpr hbl
  intro H locs cells slots ls hW hl hc hs
  unfold wb_La_law_189 at hq
  refine lv_goto (tgt := 1225) hx hb d_La_law_189 (by decide) ?_
  exact k_La_law_1225 C hX hbl hK23 _ _ _ _ _ _ _ hq _ _ _ _ _ hW (lv_sub hl [0, 1, 2, 3, 4] rfl) hc hs
def wb_La_law_23 (e0 mi : Nat) (L : Nat) (xs : Nat → Int32) : Nat → Option Nat → Option Nat → Option Nat → Int32 → Wd → Nat → Nat → Prop
  | 0, _, _, _, _, _, _, _ => False
  | n + 1, x1, x2, x3, x4, w, nc, ns => (((nI L) - (5 : Int32)) < x4 → (True)) ∧ (¬ ((nI L) - (5 : Int32)) < x4 → (vp_in x4 L ∧ ((((xs x4.toNatClampNeg) &&& (31 : Int32)) = 0 → (vp_in (x4 + (1 : Int32)) L ∧ (vp_in (x4 + (2 : Int32)) L ∧ (∃ k8 k9 : Nat, k8 ≤ nc ∧ k9 ≤ ns ∧ wp_La_belt e0 mi x1 (xs (x4 + (1 : Int32)).toNatClampNeg) (xs (x4 + (2 : Int32)).toNatClampNeg) x3 w k8 k9 (fun i12 w7 => vp_in (x4 + (1 : Int32)) L ∧ (vp_in (x4 + (2 : Int32)) L ∧ (∃ a15 : Nat, x2 = some a15 ∧ (bw_is w7 a15 6 ∧ (wp_Mo_belt e0 mi a15 (xs (x4 + (1 : Int32)).toNatClampNeg) (xs (x4 + (2 : Int32)).toNatClampNeg) w7 (fun i23 w18 => bw_is w18 a15 6 ∧ (wp_Mo_thrown e0 mi a15 w18 (fun i31 w26 => (i31 = i12 → ((¬ i12 = 0 → (wb_La_law_189 e0 mi (wb_La_law_23 e0 mi L xs n) L xs x1 x2 x3 x4 i12 i23 w26 (nc - k8) (ns - k9))) ∧ (i12 = 0 → (∃ a34 : Nat, x3 = some a34 ∧ (bw_is w26 a34 102 ∧ (vp_in (0 : Int32) (wN w26 a34) ∧ (((lg_cmp (wJ w26 a34 (0 : Int32).toNatClampNeg) i23.toInt64) = 0 → (wb_La_law_189 e0 mi (wb_La_law_23 e0 mi L xs n) L xs x1 x2 x3 x4 i12 i23 w26 (nc - k8) (ns - k9))) ∧ (¬ (lg_cmp (wJ w26 a34 (0 : Int32).toNatClampNeg) i23.toInt64) = 0 → (False))))))))) ∧ (¬ i31 = i12 → (False)))))))))))))) ∧ (((xs x4.toNatClampNeg) &&& (31 : Int32)) = 1 → (vp_in (x4 + (1 : Int32)) L ∧ (vp_in (x4 + (2 : Int32)) L ∧ (vp_in (x4 + (3 : Int32)) L ∧ (vp_in (x4 + (4 : Int32)) L ∧ (∃ k44 k45 : Nat, k44 ≤ nc ∧ k45 ≤ ns ∧ wp_La_join e0 mi x1 (xs (x4 + (1 : Int32)).toNatClampNeg) (xs (x4 + (2 : Int32)).toNatClampNeg) (xs (x4 + (3 : Int32)).toNatClampNeg) (xs (x4 + (4 : Int32)).toNatClampNeg) x3 w k44 k45 (fun i48 w43 => vp_in (x4 + (1 : Int32)) L ∧ (vp_in (x4 + (2 : Int32)) L ∧ (vp_in (x4 + (3 : Int32)) L ∧ (vp_in (x4 + (4 : Int32)) L ∧ (∃ a53 : Nat, x2 = some a53 ∧ (bw_is w43 a53 6 ∧ (wp_Mo_join e0 mi a53 (xs (x4 + (1 : Int32)).toNatClampNeg) (xs (x4 + (2 : Int32)).toNatClampNeg) (xs (x4 + (3 : Int32)).toNatClampNeg) (xs (x4 + (4 : Int32)).toNatClampNeg) w43 (fun i61 w56 => bw_is w56 a53 6 ∧ (wp_Mo_thrown e0 mi a53 w56 (fun i69 w64 => (i69 = i48 → ((¬ i48 = 0 → (wb_La_law_281 e0 mi (wb_La_law_23 e0 mi L xs n) L xs x1 x2 x3 x4 i48 i61 w64 (nc - k44) (ns - k45))) ∧ (i48 = 0 → (∃ a72 : Nat, x3 = some a72 ∧ (bw_is w64 a72 102 ∧ (vp_in (0 : Int32) (wN w64 a72) ∧ (((lg_cmp (wJ w64 a72 (0 : Int32).toNatClampNeg) i61.toInt64) = 0 → (wb_La_law_281 e0 mi (wb_La_law_23 e0 mi L xs n) L xs x1 x2 x3 x4 i48 i61 w64 (nc - k44) (ns - k45))) ∧ (¬ (lg_cmp (wJ w64 a72 (0 : Int32).toNatClampNeg) i61.toInt64) = 0 → (False))))))))) ∧ (¬ i69 = i48 → (False)))))))))))))))))) ∧ (((xs x4.toNatClampNeg) &&& (31 : Int32)) = 2 → (vp_in (x4 + (1 : Int32)) L ∧ (vp_in (x4 + (2 : Int32)) L ∧ (vp_in (x4 + (3 : Int32)) L ∧ (((xs (x4 + (3 : Int32)).toNatClampNeg) = 0 → (wb_La_law_311 e0 mi (wb_La_law_23 e0 mi L xs n) L xs x1 x2 x3 x4 x1 (xs (x4 + (1 : Int32)).toNatClampNeg) (xs (x4 + (2 : Int32)).toNatClampNeg) (0 : Int32) w nc ns)) ∧ (¬ (xs (x4 + (3 : Int32)).toNatClampNeg) = 0 → (wb_La_law_311 e0 mi (wb_La_law_23 e0 mi L xs n) L xs x1 x2 x3 x4 x1 (xs (x4 + (1 : Int32)).toNatClampNeg) (xs (x4 + (2 : Int32)).toNatClampNeg) (1 : Int32) w nc ns))))))) ∧ (((xs x4.toNatClampNeg) &&& (31 : Int32)) = 3 → (vp_in (x4 + (1 : Int32)) L ∧ (∃ k83 k84 : Nat, k83 ≤ nc ∧ k84 ≤ ns ∧ wp_La_gaps e0 mi x1 (xs (x4 + (1 : Int32)).toNatClampNeg) w k83 k84 (fun i87 w82 => vp_in (x4 + (1 : Int32)) L ∧ (∃ a89 : Nat, x2 = some a89 ∧ (bw_is w82 a89 6 ∧ (wp_Mo_gaps e0 mi a89 (xs (x4 + (1 : Int32)).toNatClampNeg) w82 (fun w92 => bw_is w92 a89 6 ∧ (wp_Mo_thrown e0 mi a89 w92 (fun i105 w100 => (i105 = i87 → (wb_La_law_1225 e0 mi (wb_La_law_23 e0 mi L xs n) L xs x1 x2 x3 x4 w100 (nc - k83) (ns - k84))) ∧ (¬ i105 = i87 → (False)))))))))))) ∧ (((xs x4.toNatClampNeg) &&& (31 : Int32)) = 4 → (vp_in (x4 + (1 : Int32)) L ∧ (vp_in (x4 + (2 : Int32)) L ∧ (vp_in (x4 + (3 : Int32)) L ∧ (∃ k112 k113 : Nat, k112 ≤ nc ∧ k113 ≤ ns ∧ wp_La_scanner e0 mi x1 (xs (x4 + (1 : Int32)).toNatClampNeg) (xs (x4 + (2 : Int32)).toNatClampNeg) (xs (x4 + (3 : Int32)).toNatClampNeg) x3 w k112 k113 (fun i116 w111 => vp_in (x4 + (1 : Int32)) L ∧ (vp_in (x4 + (2 : Int32)) L ∧ (vp_in (x4 + (3 : Int32)) L ∧ (∃ a120 : Nat, x2 = some a120 ∧ (bw_is w111 a120 6 ∧ (wp_Mo_scanner e0 mi a120 (xs (x4 + (1 : Int32)).toNatClampNeg) (xs (x4 + (2 : Int32)).toNatClampNeg) (xs (x4 + (3 : Int32)).toNatClampNeg) w111 (fun i128 w123 => bw_is w123 a120 6 ∧ (wp_Mo_thrown e0 mi a120 w123 (fun i136 w131 => (i136 = i116 → ((¬ i116 = 0 → (wb_La_law_473 e0 mi (wb_La_law_23 e0 mi L xs n) L xs x1 x2 x3 x4 i116 i128 w131 (nc - k112) (ns - k113))) ∧ (i116 = 0 → (∃ a139 : Nat, x3 = some a139 ∧ (bw_is w131 a139 102 ∧ (vp_in (0 : Int32) (wN w131 a139) ∧ (((lg_cmp (wJ w131 a139 (0 : Int32).toNatClampNeg) i128.toInt64) = 0 → (wb_La_law_473 e0 mi (wb_La_law_23 e0 mi L xs n) L xs x1 x2 x3 x4 i116 i128 w131 (nc - k112) (ns - k113))) ∧ (¬ (lg_cmp (wJ w131 a139 (0 : Int32).toNatClampNeg) i128.toInt64) = 0 → (False))))))))) ∧ (¬ i136 = i116 → (False)))))))))))))))) ∧ (((xs x4.toNatClampNeg) &&& (31 : Int32)) = 5 → (vp_in (x4 + (1 : Int32)) L ∧ (vp_in (x4 + (2 : Int32)) L ∧ (∃ k147 k148 : Nat, k147 ≤ nc ∧ k148 ≤ ns ∧ wp_La_item e0 mi x1 (xs (x4 + (1 : Int32)).toNatClampNeg) (xs (x4 + (2 : Int32)).toNatClampNeg) x3 w k147 k148 (fun i151 w146 => vp_in (x4 + (1 : Int32)) L ∧ (vp_in (x4 + (2 : Int32)) L ∧ (∃ a154 : Nat, x2 = some a154 ∧ (bw_is w146 a154 6 ∧ (wp_Mo_item e0 mi a154 (xs (x4 + (1 : Int32)).toNatClampNeg) (xs (x4 + (2 : Int32)).toNatClampNeg) w146 (fun i162 w157 => bw_is w157 a154 6 ∧ (wp_Mo_thrown e0 mi a154 w157 (fun i170 w165 => (i170 = i151 → ((¬ i151 = 0 → (wb_La_law_541 e0 mi (wb_La_law_23 e0 mi L xs n) L xs x1 x2 x3 x4 i151 i162 w165 (nc - k147) (ns - k148))) ∧ (i151 = 0 → (∃ a173 : Nat, x3 = some a173 ∧ (bw_is w165 a173 102 ∧ (vp_in (0 : Int32) (wN w165 a173) ∧ (((lg_cmp (wJ w165 a173 (0 : Int32).toNatClampNeg) i162.toInt64) = 0 → (wb_La_law_541 e0 mi (wb_La_law_23 e0 mi L xs n) L xs x1 x2 x3 x4 i151 i162 w165 (nc - k147) (ns - k148))) ∧ (¬ (lg_cmp (wJ w165 a173 (0 : Int32).toNatClampNeg) i162.toInt64) = 0 → (False))))))))) ∧ (¬ i170 = i151 → (False)))))))))))))) ∧ (((xs x4.toNatClampNeg) &&& (31 : Int32)) = 6 → (vp_in (x4 + (1 : Int32)) L ∧ (vp_in (x4 + (2 : Int32)) L ∧ (∃ k181 k182 : Nat, k181 ≤ nc ∧ k182 ≤ ns ∧ wp_La_divert e0 mi x1 (xs (x4 + (1 : Int32)).toNatClampNeg) (xs (x4 + (2 : Int32)).toNatClampNeg) x3 w k181 k182 (fun i185 w180 => vp_in (x4 + (1 : Int32)) L ∧ (vp_in (x4 + (2 : Int32)) L ∧ (∃ a188 : Nat, x2 = some a188 ∧ (bw_is w180 a188 6 ∧ (wp_Mo_divert e0 mi a188 (xs (x4 + (1 : Int32)).toNatClampNeg) (xs (x4 + (2 : Int32)).toNatClampNeg) w180 (fun i196 w191 => bw_is w191 a188 6 ∧ (wp_Mo_thrown e0 mi a188 w191 (fun i204 w199 => (i204 = i185 → ((¬ i185 = 0 → (wb_La_law_609 e0 mi (wb_La_law_23 e0 mi L xs n) L xs x1 x2 x3 x4 i185 i196 w199 (nc - k181) (ns - k182))) ∧ (i185 = 0 → (∃ a207 : Nat, x3 = some a207 ∧ (bw_is w199 a207 102 ∧ (vp_in (0 : Int32) (wN w199 a207) ∧ (((lg_cmp (wJ w199 a207 (0 : Int32).toNatClampNeg) i196.toInt64) = 0 → (wb_La_law_609 e0 mi (wb_La_law_23 e0 mi L xs n) L xs x1 x2 x3 x4 i185 i196 w199 (nc - k181) (ns - k182))) ∧ (¬ (lg_cmp (wJ w199 a207 (0 : Int32).toNatClampNeg) i196.toInt64) = 0 → (False))))))))) ∧ (¬ i204 = i185 → (False)))))))))))))) ∧ (((xs x4.toNatClampNeg) &&& (31 : Int32)) = 7 → (vp_in (x4 + (1 : Int32)) L ∧ (∃ k214 k215 : Nat, k214 ≤ nc ∧ k215 ≤ ns ∧ wp_La_step e0 mi x1 (xs (x4 + (1 : Int32)).toNatClampNeg) x3 w k214 k215 (fun i218 w213 => vp_in (x4 + (1 : Int32)) L ∧ (∃ a220 : Nat, x2 = some a220 ∧ (bw_is w213 a220 6 ∧ (wp_Mo_step e0 mi a220 (xs (x4 + (1 : Int32)).toNatClampNeg) w213 (fun i228 w223 => bw_is w223 a220 6 ∧ (wp_Mo_thrown e0 mi a220 w223 (fun i236 w231 => (i236 = i218 → ((¬ i218 = 0 → (wb_La_law_665 e0 mi (wb_La_law_23 e0 mi L xs n) L xs x1 x2 x3 x4 i218 i228 w231 (nc - k214) (ns - k215))) ∧ (i218 = 0 → (∃ a239 : Nat, x3 = some a239 ∧ (bw_is w231 a239 102 ∧ (vp_in (0 : Int32) (wN w231 a239) ∧ (((lg_cmp (wJ w231 a239 (0 : Int32).toNatClampNeg) i228.toInt64) = 0 → (wb_La_law_665 e0 mi (wb_La_law_23 e0 mi L xs n) L xs x1 x2 x3 x4 i218 i228 w231 (nc - k214) (ns - k215))) ∧ (¬ (lg_cmp (wJ w231 a239 (0 : Int32).toNatClampNeg) i228.toInt64) = 0 → (False))))))))) ∧ (¬ i236 = i218 → (False)))))))))))) ∧ (((xs x4.toNatClampNeg) &&& (31 : Int32)) = 8 → (vp_in (x4 + (1 : Int32)) L ∧ (vp_in (x4 + (2 : Int32)) L ∧ (∃ k247 k248 : Nat, k247 ≤ nc ∧ k248 ≤ ns ∧ wp_La_edge e0 mi x1 (xs (x4 + (1 : Int32)).toNatClampNeg) (xs (x4 + (2 : Int32)).toNatClampNeg) x3 w k247 k248 (fun i251 w246 => vp_in (x4 + (1 : Int32)) L ∧ (vp_in (x4 + (2 : Int32)) L ∧ (∃ a254 : Nat, x2 = some a254 ∧ (bw_is w246 a254 6 ∧ (wp_Mo_edge e0 mi a254 (xs (x4 + (1 : Int32)).toNatClampNeg) (xs (x4 + (2 : Int32)).toNatClampNeg) w246 (fun i262 w257 => bw_is w257 a254 6 ∧ (wp_Mo_thrown e0 mi a254 w257 (fun i270 w265 => (i270 = i251 → ((¬ i251 = 0 → (wb_La_law_733 e0 mi (wb_La_law_23 e0 mi L xs n) L xs x1 x2 x3 x4 i251 i262 w265 (nc - k247) (ns - k248))) ∧ (i251 = 0 → (∃ a273 : Nat, x3 = some a273 ∧ (bw_is w265 a273 102 ∧ (vp_in (0 : Int32) (wN w265 a273) ∧ (((lg_cmp (wJ w265 a273 (0 : Int32).toNatClampNeg) i262.toInt64) = 0 → (wb_La_law_733 e0 mi (wb_La_law_23 e0 mi L xs n) L xs x1 x2 x3 x4 i251 i262 w265 (nc - k247) (ns - k248))) ∧ (¬ (lg_cmp (wJ w265 a273 (0 : Int32).toNatClampNeg) i262.toInt64) = 0 → (False))))))))) ∧ (¬ i270 = i251 → (False)))))))))))))) ∧ (((xs x4.toNatClampNeg) &&& (31 : Int32)) = 9 → (vp_in (x4 + (1 : Int32)) L ∧ (vp_in (x4 + (2 : Int32)) L ∧ (∃ k281 k282 : Nat, k281 ≤ nc ∧ k282 ≤ ns ∧ wp_La_slip e0 mi x1 (xs (x4 + (1 : Int32)).toNatClampNeg) (xs (x4 + (2 : Int32)).toNatClampNeg) x3 w k281 k282 (fun i285 w280 => vp_in (x4 + (1 : Int32)) L ∧ (vp_in (x4 + (2 : Int32)) L ∧ (∃ a288 : Nat, x2 = some a288 ∧ (bw_is w280 a288 6 ∧ (wp_Mo_slip e0 mi a288 (xs (x4 + (1 : Int32)).toNatClampNeg) (xs (x4 + (2 : Int32)).toNatClampNeg) w280 (fun i296 w291 => bw_is w291 a288 6 ∧ (wp_Mo_thrown e0 mi a288 w291 (fun i304 w299 => (i304 = i285 → ((¬ i285 = 0 → (wb_La_law_801 e0 mi (wb_La_law_23 e0 mi L xs n) L xs x1 x2 x3 x4 i285 i296 w299 (nc - k281) (ns - k282))) ∧ (i285 = 0 → (∃ a307 : Nat, x3 = some a307 ∧ (bw_is w299 a307 102 ∧ (vp_in (0 : Int32) (wN w299 a307) ∧ (((lg_cmp (wJ w299 a307 (0 : Int32).toNatClampNeg) i296.toInt64) = 0 → (wb_La_law_801 e0 mi (wb_La_law_23 e0 mi L xs n) L xs x1 x2 x3 x4 i285 i296 w299 (nc - k281) (ns - k282))) ∧ (¬ (lg_cmp (wJ w299 a307 (0 : Int32).toNatClampNeg) i296.toInt64) = 0 → (False))))))))) ∧ (¬ i304 = i285 → (False)))))))))))))) ∧ (((xs x4.toNatClampNeg) &&& (31 : Int32)) = 10 → (vp_in (x4 + (1 : Int32)) L ∧ (∃ k314 k315 : Nat, k314 ≤ nc ∧ k315 ≤ ns ∧ wp_La_take e0 mi x1 (xs (x4 + (1 : Int32)).toNatClampNeg) w k314 k315 (fun i318 w313 => vp_in (x4 + (1 : Int32)) L ∧ (∃ a320 : Nat, x2 = some a320 ∧ (bw_is w313 a320 6 ∧ (wp_Mo_take e0 mi a320 (xs (x4 + (1 : Int32)).toNatClampNeg) w313 (fun w323 => bw_is w323 a320 6 ∧ (wp_Mo_thrown e0 mi a320 w323 (fun i336 w331 => (i336 = i318 → (wb_La_law_1225 e0 mi (wb_La_law_23 e0 mi L xs n) L xs x1 x2 x3 x4 w331 (nc - k314) (ns - k315))) ∧ (¬ i336 = i318 → (False)))))))))))) ∧ (((xs x4.toNatClampNeg) &&& (31 : Int32)) = 11 → (vp_in (x4 + (1 : Int32)) L ∧ (∃ k341 k342 : Nat, k341 ≤ nc ∧ k342 ≤ ns ∧ wp_La_clean e0 mi x1 (xs (x4 + (1 : Int32)).toNatClampNeg) x3 w k341 k342 (fun i345 w340 => vp_in (x4 + (1 : Int32)) L ∧ (∃ a347 : Nat, x2 = some a347 ∧ (bw_is w340 a347 6 ∧ (wp_Mo_clean e0 mi a347 (xs (x4 + (1 : Int32)).toNatClampNeg) w340 (fun i355 w350 => bw_is w350 a347 6 ∧ (wp_Mo_thrown e0 mi a347 w350 (fun i363 w358 => (i363 = i345 → ((¬ i345 = 0 → (wb_La_law_893 e0 mi (wb_La_law_23 e0 mi L xs n) L xs x1 x2 x3 x4 i345 i355 w358 (nc - k341) (ns - k342))) ∧ (i345 = 0 → (∃ a366 : Nat, x3 = some a366 ∧ (bw_is w358 a366 102 ∧ (vp_in (0 : Int32) (wN w358 a366) ∧ (((lg_cmp (wJ w358 a366 (0 : Int32).toNatClampNeg) i355.toInt64) = 0 → (wb_La_law_893 e0 mi (wb_La_law_23 e0 mi L xs n) L xs x1 x2 x3 x4 i345 i355 w358 (nc - k341) (ns - k342))) ∧ (¬ (lg_cmp (wJ w358 a366 (0 : Int32).toNatClampNeg) i355.toInt64) = 0 → (False))))))))) ∧ (¬ i363 = i345 → (False)))))))))))) ∧ (((xs x4.toNatClampNeg) &&& (31 : Int32)) = 12 → (vp_in (x4 + (1 : Int32)) L ∧ (vp_in (x4 + (2 : Int32)) L ∧ (∃ k374 k375 : Nat, k374 ≤ nc ∧ k375 ≤ ns ∧ wp_La_gap e0 mi x1 (xs (x4 + (1 : Int32)).toNatClampNeg) (xs (x4 + (2 : Int32)).toNatClampNeg) x3 w k374 k375 (fun i378 w373 => vp_in (x4 + (1 : Int32)) L ∧ (vp_in (x4 + (2 : Int32)) L ∧ (∃ a381 : Nat, x2 = some a381 ∧ (bw_is w373 a381 6 ∧ (wp_Mo_gap e0 mi a381 (xs (x4 + (1 : Int32)).toNatClampNeg) (xs (x4 + (2 : Int32)).toNatClampNeg) w373 (fun i389 w384 => bw_is w384 a381 6 ∧ (wp_Mo_thrown e0 mi a381 w384 (fun i397 w392 => (i397 = i378 → ((¬ i378 = 0 → (wb_La_law_961 e0 mi (wb_La_law_23 e0 mi L xs n) L xs x1 x2 x3 x4 i378 i389 w392 (nc - k374) (ns - k375))) ∧ (i378 = 0 → (∃ a400 : Nat, x3 = some a400 ∧ (bw_is w392 a400 102 ∧ (vp_in (0 : Int32) (wN w392 a400) ∧ (((lg_cmp (wJ w392 a400 (0 : Int32).toNatClampNeg) i389.toInt64) = 0 → (wb_La_law_961 e0 mi (wb_La_law_23 e0 mi L xs n) L xs x1 x2 x3 x4 i378 i389 w392 (nc - k374) (ns - k375))) ∧ (¬ (lg_cmp (wJ w392 a400 (0 : Int32).toNatClampNeg) i389.toInt64) = 0 → (False))))))))) ∧ (¬ i397 = i378 → (False)))))))))))))) ∧ (((xs x4.toNatClampNeg) &&& (31 : Int32)) = 13 → (vp_in (x4 + (1 : Int32)) L ∧ (vp_in (x4 + (2 : Int32)) L ∧ (∃ k408 k409 : Nat, k408 ≤ nc ∧ k409 ≤ ns ∧ wp_La_told e0 mi x1 (xs (x4 + (1 : Int32)).toNatClampNeg) (xs (x4 + (2 : Int32)).toNatClampNeg) x3 w k408 k409 (fun i412 w407 => vp_in (x4 + (1 : Int32)) L ∧ (vp_in (x4 + (2 : Int32)) L ∧ (∃ a415 : Nat, x2 = some a415 ∧ (bw_is w407 a415 6 ∧ (wp_Mo_told e0 mi a415 (xs (x4 + (1 : Int32)).toNatClampNeg) (xs (x4 + (2 : Int32)).toNatClampNeg) w407 (fun i423 w418 => bw_is w418 a415 6 ∧ (wp_Mo_thrown e0 mi a415 w418 (fun i431 w426 => (i431 = i412 → ((¬ i412 = 0 → (wb_La_law_1029 e0 mi (wb_La_law_23 e0 mi L xs n) L xs x1 x2 x3 x4 i412 i423 w426 (nc - k408) (ns - k409))) ∧ (i412 = 0 → (∃ a434 : Nat, x3 = some a434 ∧ (bw_is w426 a434 102 ∧ (vp_in (0 : Int32) (wN w426 a434) ∧ (((lg_cmp (wJ w426 a434 (0 : Int32).toNatClampNeg) i423.toInt64) = 0 → (wb_La_law_1029 e0 mi (wb_La_law_23 e0 mi L xs n) L xs x1 x2 x3 x4 i412 i423 w426 (nc - k408) (ns - k409))) ∧ (¬ (lg_cmp (wJ w426 a434 (0 : Int32).toNatClampNeg) i423.toInt64) = 0 → (False))))))))) ∧ (¬ i431 = i412 → (False)))))))))))))) ∧ (((xs x4.toNatClampNeg) &&& (31 : Int32)) = 14 → (vp_in (x4 + (1 : Int32)) L ∧ (vp_in (x4 + (2 : Int32)) L ∧ (∃ k442 k443 : Nat, k442 ≤ nc ∧ k443 ≤ ns ∧ wp_La_known e0 mi x1 (xs (x4 + (1 : Int32)).toNatClampNeg) (xs (x4 + (2 : Int32)).toNatClampNeg) x3 w k442 k443 (fun i446 w441 => vp_in (x4 + (1 : Int32)) L ∧ (vp_in (x4 + (2 : Int32)) L ∧ (∃ a449 : Nat, x2 = some a449 ∧ (bw_is w441 a449 6 ∧ (wp_Mo_known e0 mi a449 (xs (x4 + (1 : Int32)).toNatClampNeg) (xs (x4 + (2 : Int32)).toNatClampNeg) w441 (fun i457 w452 => bw_is w452 a449 6 ∧ (wp_Mo_thrown e0 mi a449 w452 (fun i465 w460 => (i465 = i446 → ((¬ i446 = 0 → (wb_La_law_1097 e0 mi (wb_La_law_23 e0 mi L xs n) L xs x1 x2 x3 x4 i446 i457 w460 (nc - k442) (ns - k443))) ∧ (i446 = 0 → (∃ a468 : Nat, x3 = some a468 ∧ (bw_is w460 a468 102 ∧ (vp_in (0 : Int32) (wN w460 a468) ∧ (((lg_cmp (wJ w460 a468 (0 : Int32).toNatClampNeg) i457.toInt64) = 0 → (wb_La_law_1097 e0 mi (wb_La_law_23 e0 mi L xs n) L xs x1 x2 x3 x4 i446 i457 w460 (nc - k442) (ns - k443))) ∧ (¬ (lg_cmp (wJ w460 a468 (0 : Int32).toNatClampNeg) i457.toInt64) = 0 → (False))))))))) ∧ (¬ i465 = i446 → (False)))))))))))))) ∧ (((xs x4.toNatClampNeg) &&& (31 : Int32)) = 15 → (vp_in (x4 + (1 : Int32)) L ∧ (∃ k475 k476 : Nat, k475 ≤ nc ∧ k476 ≤ ns ∧ wp_La_order e0 mi x1 (xs (x4 + (1 : Int32)).toNatClampNeg) x3 w k475 k476 (fun i479 w474 => vp_in (x4 + (1 : Int32)) L ∧ (∃ a481 : Nat, x2 = some a481 ∧ (bw_is w474 a481 6 ∧ (wp_Mo_order e0 mi a481 (xs (x4 + (1 : Int32)).toNatClampNeg) w474 (fun i489 w484 => bw_is w484 a481 6 ∧ (wp_Mo_thrown e0 mi a481 w484 (fun i497 w492 => (i497 = i479 → ((¬ i479 = 0 → (wb_La_law_1153 e0 mi (wb_La_law_23 e0 mi L xs n) L xs x1 x2 x3 x4 i479 i489 w492 (nc - k475) (ns - k476))) ∧ (i479 = 0 → (∃ a500 : Nat, x3 = some a500 ∧ (bw_is w492 a500 102 ∧ (vp_in (0 : Int32) (wN w492 a500) ∧ (((lg_cmp (wJ w492 a500 (0 : Int32).toNatClampNeg) i489.toInt64) = 0 → (wb_La_law_1153 e0 mi (wb_La_law_23 e0 mi L xs n) L xs x1 x2 x3 x4 i479 i489 w492 (nc - k475) (ns - k476))) ∧ (¬ (lg_cmp (wJ w492 a500 (0 : Int32).toNatClampNeg) i489.toInt64) = 0 → (False))))))))) ∧ (¬ i497 = i479 → (False)))))))))))) ∧ (((xs x4.toNatClampNeg) &&& (31 : Int32)) = 16 → (∃ k506 k507 : Nat, k506 ≤ nc ∧ k507 ≤ ns ∧ wp_La_mean e0 mi x1 x3 w k506 k507 (fun i510 w505 => ∃ a511 : Nat, x2 = some a511 ∧ (bw_is w505 a511 6 ∧ (wp_Mo_mean e0 mi a511 w505 (fun i519 w514 => bw_is w514 a511 6 ∧ (wp_Mo_thrown e0 mi a511 w514 (fun i527 w522 => (i527 = i510 → ((¬ i510 = 0 → (wb_La_law_1197 e0 mi (wb_La_law_23 e0 mi L xs n) L xs x1 x2 x3 x4 i510 i519 w522 (nc - k506) (ns - k507))) ∧ (i510 = 0 → (∃ a530 : Nat, x3 = some a530 ∧ (bw_is w522 a530 102 ∧ (vp_in (0 : Int32) (wN w522 a530) ∧ (((lg_cmp (wJ w522 a530 (0 : Int32).toNatClampNeg) i519.toInt64) = 0 → (wb_La_law_1197 e0 mi (wb_La_law_23 e0 mi L xs n) L xs x1 x2 x3 x4 i510 i519 w522 (nc - k506) (ns - k507))) ∧ (¬ (lg_cmp (wJ w522 a530 (0 : Int32).toNatClampNeg) i519.toInt64) = 0 → (False))))))))) ∧ (¬ i527 = i510 → (False)))))))))) ∧ (((xs x4.toNatClampNeg) &&& (31 : Int32)) = 17 → (vp_in (x4 + (1 : Int32)) L ∧ (∃ a535 : Nat, x1 = some a535 ∧ (bw_is w a535 5 ∧ (wp_Br_count e0 mi a535 (xs (x4 + (1 : Int32)).toNatClampNeg) w (fun i543 w538 => vp_in (x4 + (1 : Int32)) L ∧ (∃ a545 : Nat, x2 = some a545 ∧ (bw_is w538 a545 6 ∧ (wp_Mo_count e0 mi a545 (xs (x4 + (1 : Int32)).toNatClampNeg) w538 (fun i553 w548 => (i543 = i553 → (wb_La_law_1225 e0 mi (wb_La_law_23 e0 mi L xs n) L xs x1 x2 x3 x4 w548 nc ns)) ∧ (¬ i543 = i553 → (False)))))))))))) ∧ ((((xs x4.toNatClampNeg) &&& (31 : Int32)).toInt < 0 ∨ 17 < ((xs x4.toNatClampNeg) &&& (31 : Int32)).toInt) → (wb_La_law_1225 e0 mi (wb_La_law_23 e0 mi L xs n) L xs x1 x2 x3 x4 w nc ns)))))
set_option maxHeartbeats 4000000 in
set_option maxRecDepth 100000 in
theorem k_La_law_23 {p : Program} {l : Launch} {e : Env} {s : State} {m : MethodId} {below : List Frame} {meth : Method} {c : Code} {D : va_G} {AC : Nat → ClassId} {e0 mi : Nat} {x0 L : Nat} {xs : Nat → Int32} (C : Cx p l s m #[Value.ref x0] meth c D AC e0 mi (fun q : Nat => s.heap.size ≤ q) n_La_law b_La_law 7 (some .boolean)) (hX : va_X x0 L xs s s.heap) (hbl : x0 < s.heap.size) : ∀ (n : Nat) (x1 : Option Nat) (x2 : Option Nat) (x3 : Option Nat) (x4 : Int32) (w : Wd) (nc ns : Nat), wb_La_law_23 e0 mi L xs n x1 x2 x3 x4 w nc ns → ∀ (H : Heap) (locs : List Loc) (cells slots : Nat) (ls : Array Slot), HW D cls8 FTc AC (fun q : Nat => s.heap.size ≤ q) s.heap H locs w → lv_has ls 7 [(0, va_rf (some x0)), (1, va_rf x1), (2, va_rf x2), (3, va_rf x3), (4, .int x4)] → cells + nc ≤ 600002 → slots + ns ≤ 7302231 → W p l e room_1 s m #[Value.ref x0] below meth c H locs cells slots (lw_Z below #[Value.ref x0] s) (F0 m 23 ls []) := by
  obtain ⟨hl0, hx, hb, hr, ht, hown, hlocks, hnm, hml, hex, hK, hA, hZ, hV⟩ := id C
  have hbA : ¬ (fun q : Nat => s.heap.size ≤ q) x0 := Nat.not_le.mpr hbl
  intro n
  induction n with
  | zero =>
    intro x1 x2 x3 x4 w nc ns hq
    exact hq.elim
  | succ n ih =>
    intro x1 x2 x3 x4 w nc ns hq H locs cells slots ls hW hl hc hs
    have hK23 := ih
    unfold wb_La_law_23 at hq
    refine lv_iload hx hb d_La_law_23 (lv_at hl 4 rfl) ?_
    refine bw_aload_n hx hb d_La_law_25 rfl (lv_at hl 0 rfl) ?_
    refine va_slen hx hb hX hbl hbA hW.2.2 d_La_law_26 ?_
    refine lv_iconst (v := 5) hx hb d_La_law_27 (by decide) ?_
    refine lv_isub hx hb d_La_law_28 ?_
    refine lv_icmp_gt (tgt := 1231) hx hb d_La_law_29 (by decide) (fun c1 => ?_) (fun c1 => ?_)
    · have hq := hq.1 c1
      refine lv_iconst (v := 1) hx hb d_La_law_1231 (by decide) ?_
      refine va_forget (fun q h => hW.2.2.2.2 q h) ?_
      exact W.widen (Nat.le_trans (Nat.le_add_right _ _) hc) (Nat.le_trans (Nat.le_add_right _ _) hs) (lw_ret hx hb hr hlocks d_La_law_1232)
    · have hq := hq.2 c1
      refine bw_aload_n hx hb d_La_law_32 rfl (lv_at hl 0 rfl) ?_
      refine lv_iload hx hb d_La_law_33 (lv_at hl 4 rfl) ?_
      obtain ⟨h2, hq⟩ := hq
      refine va_sld hx hb hX hbl hbA hW.2.2 h2 d_La_law_35 ?_
      refine lv_bipush (v := 31) hx hb d_La_law_36 (by decide) ?_
      refine lv_iand hx hb d_La_law_38 ?_
      by_cases c3 : ((xs x4.toNatClampNeg) &&& (31 : Int32)).toInt < 0 ∨ 17 < ((xs x4.toNatClampNeg) &&& (31 : Int32)).toInt
      · have hq := hq.2.2.2.2.2.2.2.2.2.2.2.2.2.2.2.2.2.2 c3
        refine lv_tableOut (tgt := 1225) hx hb d_La_law_39 c3 (by decide) ?_
        exact k_La_law_1225 C hX hbl hK23 _ _ _ _ _ _ _ hq _ _ _ _ _ hW (lv_sub hl [0, 1, 2, 3, 4] rfl) hc hs
      · have c32 : ((xs x4.toNatClampNeg) &&& (31 : Int32)) = 0 ∨ ((xs x4.toNatClampNeg) &&& (31 : Int32)) = 1 ∨ ((xs x4.toNatClampNeg) &&& (31 : Int32)) = 2 ∨ ((xs x4.toNatClampNeg) &&& (31 : Int32)) = 3 ∨ ((xs x4.toNatClampNeg) &&& (31 : Int32)) = 4 ∨ ((xs x4.toNatClampNeg) &&& (31 : Int32)) = 5 ∨ ((xs x4.toNatClampNeg) &&& (31 : Int32)) = 6 ∨ ((xs x4.toNatClampNeg) &&& (31 : Int32)) = 7 ∨ ((xs x4.toNatClampNeg) &&& (31 : Int32)) = 8 ∨ ((xs x4.toNatClampNeg) &&& (31 : Int32)) = 9 ∨ ((xs x4.toNatClampNeg) &&& (31 : Int32)) = 10 ∨ ((xs x4.toNatClampNeg) &&& (31 : Int32)) = 11 ∨ ((xs x4.toNatClampNeg) &&& (31 : Int32)) = 12 ∨ ((xs x4.toNatClampNeg) &&& (31 : Int32)) = 13 ∨ ((xs x4.toNatClampNeg) &&& (31 : Int32)) = 14 ∨ ((xs x4.toNatClampNeg) &&& (31 : Int32)) = 15 ∨ ((xs x4.toNatClampNeg) &&& (31 : Int32)) = 16 ∨ ((xs x4.toNatClampNeg) &&& (31 : Int32)) = 17 := bw_sw18 c3
        rcases c32 with c3 | c3 | c3 | c3 | c3 | c3 | c3 | c3 | c3 | c3 | c3 | c3 | c3 | c3 | c3 | c3 | c3 | c3
        · have hq := hq.1 c3
          refine lv_tableIn (tgt := 124) hx hb d_La_law_39 (by rw [c3]; decide) (by rw [c3]; decide) (by rw [c3]; rfl) (by decide) ?_
          refine bw_aload_n hx hb d_La_law_124 rfl (lv_at hl 1 rfl) ?_
          refine bw_aload_n hx hb d_La_law_125 rfl (lv_at hl 0 rfl) ?_
          refine lv_iload hx hb d_La_law_126 (lv_at hl 4 rfl) ?_
          refine lv_iconst (v := 1) hx hb d_La_law_128 (by decide) ?_
          refine lv_iadd hx hb d_La_law_129 ?_
          obtain ⟨h4, hq⟩ := hq
          refine va_sld hx hb hX hbl hbA hW.2.2 h4 d_La_law_130 ?_
          refine bw_aload_n hx hb d_La_law_131 rfl (lv_at hl 0 rfl) ?_
          refine lv_iload hx hb d_La_law_132 (lv_at hl 4 rfl) ?_
          refine lv_iconst (v := 2) hx hb d_La_law_134 (by decide) ?_
          refine lv_iadd hx hb d_La_law_135 ?_
          obtain ⟨h5, hq⟩ := hq
          refine va_sld hx hb hX hbl hbA hW.2.2 h5 d_La_law_136 ?_
          refine bw_aload_n hx hb d_La_law_137 rfl (lv_at hl 3 rfl) ?_
          obtain ⟨k8, k9, h10, h11, hq⟩ := hq
          refine bw_callSW (nA := 4) (hh := [(0, 10, 13, 13), (0, 10, 17, 15)]) (As := [va_rf x1, .int (xs (x4 + (1 : Int32)).toNatClampNeg), .int (xs (x4 + (2 : Int32)).toNatClampNeg), va_rf x3]) (rest := []) C hW m_116 m_0 m_114 m_115 (by decide) (by decide +kernel) d_La_law_138 rfl rfl hl.1 (by decide) ⟨Nat.le_of_ble_eq_true rfl, Nat.le_of_ble_eq_true rfl⟩ ⟨Nat.le_trans (Nat.add_le_add_left h10 _) hc, Nat.le_trans (Nat.add_le_add_left h11 _) hs⟩ (c_La_belt hl0 _ _ _ _ _ _ _ hq) (fun v6 w7 H locs hv hW => ?_)
          obtain ⟨i12, rfl, hq⟩ := hv
          have hc := bw_bud hc h10
          have hs := bw_bud hs h11
          refine W.eq (g2 := F0 m 141 ls [.int i12]) rfl ?_
          refine lv_istore (lv' := [(5, .int i12), (0, va_rf (some x0)), (1, va_rf x1), (2, va_rf x2), (3, va_rf x3), (4, .int x4)]) hx hb d_La_law_141 hl (by decide) (by simp [bw_cat, cat_i, cat_j]) (fun ls hl => ?_)
          refine bw_aload_n hx hb d_La_law_143 rfl (lv_at hl 3 rfl) ?_
          refine bw_aload_n hx hb d_La_law_144 rfl (lv_at hl 1 rfl) ?_
          refine lv_iload hx hb d_La_law_145 (lv_at hl 5 rfl) ?_
          refine lv_iconst (v := 1) hx hb d_La_law_147 (by decide) ?_
          refine lv_iadd hx hb d_La_law_148 ?_
          obtain ⟨h13, hq⟩ := hq
          refine va_sld hx hb hX hbl hbA hW.2.2 h13 d_La_law_149 ?_
          refine bw_aload_n hx hb d_La_law_150 rfl (lv_at hl 1 rfl) ?_
          refine lv_iload hx hb d_La_law_151 (lv_at hl 5 rfl) ?_
          refine lv_iconst (v := 2) hx hb d_La_law_153 (by decide) ?_
          refine lv_iadd hx hb d_La_law_154 ?_
          obtain ⟨h14, hq⟩ := hq
          refine va_sld hx hb hX hbl hbA hW.2.2 h14 d_La_law_155 ?_
          obtain ⟨a15, ea15, hq⟩ := hq
          obtain ⟨t16, hq⟩ := hq
          refine bw_callV (As := [.int (xs (x4 + (1 : Int32)).toNatClampNeg), .int (xs (x4 + (2 : Int32)).toNatClampNeg)]) (rest := []) C hW ci_Mo_belt m_848 m_849 m_850 d_La_law_156 ea15 t16 (by decide) rfl rfl rfl hl.1 (by decide) ⟨Nat.le_of_ble_eq_true rfl, Nat.le_of_ble_eq_true rfl⟩ ⟨Nat.le_trans (Nat.add_le_add_left (Nat.zero_le _) _) hc, Nat.le_trans (Nat.add_le_add_left (Nat.zero_le _) _) hs⟩ (c_Mo_belt hl0 _ _ _ _ hq) (fun _ _ _ _ _ _ h => h.elim) (fun v17 w18 H locs hv hW => ?_)
          obtain ⟨i23, rfl, hq⟩ := hv
          have hc := bw_bud0 hc
          have hs := bw_bud0 hs
          refine W.eq (g2 := F0 m 159 ls [.int i23]) rfl ?_
          refine lv_istore (lv' := [(6, .int i23), (5, .int i12), (0, va_rf (some x0)), (1, va_rf x1), (2, va_rf x2), (3, va_rf x3), (4, .int x4)]) hx hb d_La_law_159 hl (by decide) (by simp [bw_cat, cat_i, cat_j]) (fun ls hl => ?_)
          refine bw_aload_n hx hb d_La_law_161 rfl (lv_at hl 4 rfl) ?_
          obtain ⟨t24, hq⟩ := hq
          refine bw_callV (As := []) (rest := []) C hW ci_Mo_thrown m_844 m_845 m_846 d_La_law_162 ea15 t24 (by decide) rfl rfl rfl hl.1 (by decide) ⟨Nat.le_of_ble_eq_true rfl, Nat.le_of_ble_eq_true rfl⟩ ⟨Nat.le_trans (Nat.add_le_add_left (Nat.zero_le _) _) hc, Nat.le_trans (Nat.add_le_add_left (Nat.zero_le _) _) hs⟩ (c_Mo_thrown hl0 _ _ hq) (fun _ _ _ _ _ _ h => h.elim) (fun v25 w26 H locs hv hW => ?_)
          obtain ⟨i31, rfl, hq⟩ := hv
          have hc := bw_bud0 hc
          have hs := bw_bud0 hs
          refine W.eq (g2 := F0 m 165 ls [.int i31]) rfl ?_
          refine lv_iload hx hb d_La_law_165 (lv_at hl 1 rfl) ?_
          refine lv_icmp_eq (tgt := 172) hx hb d_La_law_167 (by decide) (fun c32 => ?_) (fun c32 => ?_)
          · have hq := hq.1 c32
            refine lv_iload hx hb d_La_law_172 (lv_at hl 1 rfl) ?_
            refine lv_if_ne (tgt := 189) hx hb d_La_law_174 (by decide) (fun c33 => ?_) (fun c33 => ?_)
            · have hq := hq.1 c33
              exact k_La_law_189 C hX hbl hK23 _ _ _ _ _ _ _ _ _ hq _ _ _ _ _ hW (lv_sub hl [2, 3, 4, 5, 6, 1, 0] rfl) hc hs
            · have hq := hq.2 c33
              refine bw_aload_n hx hb d_La_law_177 rfl (lv_at hl 5 rfl) ?_
              refine lv_iconst (v := 0) hx hb d_La_law_178 (by decide) ?_
              obtain ⟨a34, ea34, hq⟩ := hq
              obtain ⟨t35, hq⟩ := hq
              obtain ⟨h36, hq⟩ := hq
              refine bw_lald C hW ea34 t35 h36 d_La_law_179 ?_
              refine lv_iload hx hb d_La_law_180 (lv_at hl 0 rfl) ?_
              refine lv_i2l hx hb d_La_law_182 rfl ?_
              refine W.lcmp hx hb d_La_law_183 ?_
              refine lv_if_eq (tgt := 189) hx hb d_La_law_184 (by decide) (fun c37 => ?_) (fun c37 => ?_)
              · have hq := hq.1 c37
                exact k_La_law_189 C hX hbl hK23 _ _ _ _ _ _ _ _ _ hq _ _ _ _ _ hW (lv_sub hl [2, 3, 4, 5, 6, 1, 0] rfl) hc hs
              · have hq := hq.2 c37
                refine lv_iconst (v := 0) hx hb d_La_law_187 (by decide) ?_
                exact hq.elim
          · have hq := hq.2 c32
            refine lv_iconst (v := 0) hx hb d_La_law_170 (by decide) ?_
            exact hq.elim
        · have hq := hq.2.1 c3
          refine lv_tableIn (tgt := 192) hx hb d_La_law_39 (by rw [c3]; decide) (by rw [c3]; decide) (by rw [c3]; rfl) (by decide) ?_
          refine bw_aload_n hx hb d_La_law_192 rfl (lv_at hl 1 rfl) ?_
          refine bw_aload_n hx hb d_La_law_193 rfl (lv_at hl 0 rfl) ?_
          refine lv_iload hx hb d_La_law_194 (lv_at hl 4 rfl) ?_
          refine lv_iconst (v := 1) hx hb d_La_law_196 (by decide) ?_
          refine lv_iadd hx hb d_La_law_197 ?_
          obtain ⟨h38, hq⟩ := hq
          refine va_sld hx hb hX hbl hbA hW.2.2 h38 d_La_law_198 ?_
          refine bw_aload_n hx hb d_La_law_199 rfl (lv_at hl 0 rfl) ?_
          refine lv_iload hx hb d_La_law_200 (lv_at hl 4 rfl) ?_
          refine lv_iconst (v := 2) hx hb d_La_law_202 (by decide) ?_
          refine lv_iadd hx hb d_La_law_203 ?_
          obtain ⟨h39, hq⟩ := hq
          refine va_sld hx hb hX hbl hbA hW.2.2 h39 d_La_law_204 ?_
          refine bw_aload_n hx hb d_La_law_205 rfl (lv_at hl 0 rfl) ?_
          refine lv_iload hx hb d_La_law_206 (lv_at hl 4 rfl) ?_
          refine lv_iconst (v := 3) hx hb d_La_law_208 (by decide) ?_
          refine lv_iadd hx hb d_La_law_209 ?_
          obtain ⟨h40, hq⟩ := hq
          refine va_sld hx hb hX hbl hbA hW.2.2 h40 d_La_law_210 ?_
          refine bw_aload_n hx hb d_La_law_211 rfl (lv_at hl 0 rfl) ?_
          refine lv_iload hx hb d_La_law_212 (lv_at hl 4 rfl) ?_
          refine lv_iconst (v := 4) hx hb d_La_law_214 (by decide) ?_
          refine lv_iadd hx hb d_La_law_215 ?_
          obtain ⟨h41, hq⟩ := hq
          refine va_sld hx hb hX hbl hbA hW.2.2 h41 d_La_law_216 ?_
          refine bw_aload_n hx hb d_La_law_217 rfl (lv_at hl 3 rfl) ?_
          obtain ⟨k44, k45, h46, h47, hq⟩ := hq
          refine bw_callSW (nA := 6) (hh := [(0, 14, 17, 21), (0, 14, 21, 13)]) (As := [va_rf x1, .int (xs (x4 + (1 : Int32)).toNatClampNeg), .int (xs (x4 + (2 : Int32)).toNatClampNeg), .int (xs (x4 + (3 : Int32)).toNatClampNeg), .int (xs (x4 + (4 : Int32)).toNatClampNeg), va_rf x3]) (rest := []) C hW m_336 m_0 m_334 m_335 (by decide) (by decide +kernel) d_La_law_218 rfl rfl hl.1 (by decide) ⟨Nat.le_of_ble_eq_true rfl, Nat.le_of_ble_eq_true rfl⟩ ⟨Nat.le_trans (Nat.add_le_add_left h46 _) hc, Nat.le_trans (Nat.add_le_add_left h47 _) hs⟩ (c_La_join hl0 _ _ _ _ _ _ _ _ _ hq) (fun v42 w43 H locs hv hW => ?_)
          obtain ⟨i48, rfl, hq⟩ := hv
          have hc := bw_bud hc h46
          have hs := bw_bud hs h47
          refine W.eq (g2 := F0 m 221 ls [.int i48]) rfl ?_
          refine lv_istore (lv' := [(5, .int i48), (0, va_rf (some x0)), (1, va_rf x1), (2, va_rf x2), (3, va_rf x3), (4, .int x4)]) hx hb d_La_law_221 hl (by decide) (by simp [bw_cat, cat_i, cat_j]) (fun ls hl => ?_)
          refine bw_aload_n hx hb d_La_law_223 rfl (lv_at hl 3 rfl) ?_
          refine bw_aload_n hx hb d_La_law_224 rfl (lv_at hl 1 rfl) ?_
          refine lv_iload hx hb d_La_law_225 (lv_at hl 5 rfl) ?_
          refine lv_iconst (v := 1) hx hb d_La_law_227 (by decide) ?_
          refine lv_iadd hx hb d_La_law_228 ?_
          obtain ⟨h49, hq⟩ := hq
          refine va_sld hx hb hX hbl hbA hW.2.2 h49 d_La_law_229 ?_
          refine bw_aload_n hx hb d_La_law_230 rfl (lv_at hl 1 rfl) ?_
          refine lv_iload hx hb d_La_law_231 (lv_at hl 5 rfl) ?_
          refine lv_iconst (v := 2) hx hb d_La_law_233 (by decide) ?_
          refine lv_iadd hx hb d_La_law_234 ?_
          obtain ⟨h50, hq⟩ := hq
          refine va_sld hx hb hX hbl hbA hW.2.2 h50 d_La_law_235 ?_
          refine bw_aload_n hx hb d_La_law_236 rfl (lv_at hl 1 rfl) ?_
          refine lv_iload hx hb d_La_law_237 (lv_at hl 5 rfl) ?_
          refine lv_iconst (v := 3) hx hb d_La_law_239 (by decide) ?_
          refine lv_iadd hx hb d_La_law_240 ?_
          obtain ⟨h51, hq⟩ := hq
          refine va_sld hx hb hX hbl hbA hW.2.2 h51 d_La_law_241 ?_
          refine bw_aload_n hx hb d_La_law_242 rfl (lv_at hl 1 rfl) ?_
          refine lv_iload hx hb d_La_law_243 (lv_at hl 5 rfl) ?_
          refine lv_iconst (v := 4) hx hb d_La_law_245 (by decide) ?_
          refine lv_iadd hx hb d_La_law_246 ?_
          obtain ⟨h52, hq⟩ := hq
          refine va_sld hx hb hX hbl hbA hW.2.2 h52 d_La_law_247 ?_
          obtain ⟨a53, ea53, hq⟩ := hq
          obtain ⟨t54, hq⟩ := hq
          refine bw_callV (As := [.int (xs (x4 + (1 : Int32)).toNatClampNeg), .int (xs (x4 + (2 : Int32)).toNatClampNeg), .int (xs (x4 + (3 : Int32)).toNatClampNeg), .int (xs (x4 + (4 : Int32)).toNatClampNeg)]) (rest := []) C hW ci_Mo_join m_855 m_856 m_857 d_La_law_248 ea53 t54 (by decide) rfl rfl rfl hl.1 (by decide) ⟨Nat.le_of_ble_eq_true rfl, Nat.le_of_ble_eq_true rfl⟩ ⟨Nat.le_trans (Nat.add_le_add_left (Nat.zero_le _) _) hc, Nat.le_trans (Nat.add_le_add_left (Nat.zero_le _) _) hs⟩ (c_Mo_join hl0 _ _ _ _ _ _ hq) (fun _ _ _ _ _ _ h => h.elim) (fun v55 w56 H locs hv hW => ?_)
          obtain ⟨i61, rfl, hq⟩ := hv
          have hc := bw_bud0 hc
          have hs := bw_bud0 hs
          refine W.eq (g2 := F0 m 251 ls [.int i61]) rfl ?_
          refine lv_istore (lv' := [(6, .int i61), (5, .int i48), (0, va_rf (some x0)), (1, va_rf x1), (2, va_rf x2), (3, va_rf x3), (4, .int x4)]) hx hb d_La_law_251 hl (by decide) (by simp [bw_cat, cat_i, cat_j]) (fun ls hl => ?_)
          refine bw_aload_n hx hb d_La_law_253 rfl (lv_at hl 4 rfl) ?_
          obtain ⟨t62, hq⟩ := hq
          refine bw_callV (As := []) (rest := []) C hW ci_Mo_thrown m_844 m_845 m_846 d_La_law_254 ea53 t62 (by decide) rfl rfl rfl hl.1 (by decide) ⟨Nat.le_of_ble_eq_true rfl, Nat.le_of_ble_eq_true rfl⟩ ⟨Nat.le_trans (Nat.add_le_add_left (Nat.zero_le _) _) hc, Nat.le_trans (Nat.add_le_add_left (Nat.zero_le _) _) hs⟩ (c_Mo_thrown hl0 _ _ hq) (fun _ _ _ _ _ _ h => h.elim) (fun v63 w64 H locs hv hW => ?_)
          obtain ⟨i69, rfl, hq⟩ := hv
          have hc := bw_bud0 hc
          have hs := bw_bud0 hs
          refine W.eq (g2 := F0 m 257 ls [.int i69]) rfl ?_
          refine lv_iload hx hb d_La_law_257 (lv_at hl 1 rfl) ?_
          refine lv_icmp_eq (tgt := 264) hx hb d_La_law_259 (by decide) (fun c70 => ?_) (fun c70 => ?_)
          · have hq := hq.1 c70
            refine lv_iload hx hb d_La_law_264 (lv_at hl 1 rfl) ?_
            refine lv_if_ne (tgt := 281) hx hb d_La_law_266 (by decide) (fun c71 => ?_) (fun c71 => ?_)
            · have hq := hq.1 c71
              exact k_La_law_281 C hX hbl hK23 _ _ _ _ _ _ _ _ _ hq _ _ _ _ _ hW (lv_sub hl [2, 3, 4, 5, 6, 1, 0] rfl) hc hs
            · have hq := hq.2 c71
              refine bw_aload_n hx hb d_La_law_269 rfl (lv_at hl 5 rfl) ?_
              refine lv_iconst (v := 0) hx hb d_La_law_270 (by decide) ?_
              obtain ⟨a72, ea72, hq⟩ := hq
              obtain ⟨t73, hq⟩ := hq
              obtain ⟨h74, hq⟩ := hq
              refine bw_lald C hW ea72 t73 h74 d_La_law_271 ?_
              refine lv_iload hx hb d_La_law_272 (lv_at hl 0 rfl) ?_
              refine lv_i2l hx hb d_La_law_274 rfl ?_
              refine W.lcmp hx hb d_La_law_275 ?_
              refine lv_if_eq (tgt := 281) hx hb d_La_law_276 (by decide) (fun c75 => ?_) (fun c75 => ?_)
              · have hq := hq.1 c75
                exact k_La_law_281 C hX hbl hK23 _ _ _ _ _ _ _ _ _ hq _ _ _ _ _ hW (lv_sub hl [2, 3, 4, 5, 6, 1, 0] rfl) hc hs
              · have hq := hq.2 c75
                refine lv_iconst (v := 0) hx hb d_La_law_279 (by decide) ?_
                exact hq.elim
          · have hq := hq.2 c70
            refine lv_iconst (v := 0) hx hb d_La_law_262 (by decide) ?_
            exact hq.elim
        · have hq := hq.2.2.1 c3
          refine lv_tableIn (tgt := 284) hx hb d_La_law_39 (by rw [c3]; decide) (by rw [c3]; decide) (by rw [c3]; rfl) (by decide) ?_
          refine bw_aload_n hx hb d_La_law_284 rfl (lv_at hl 1 rfl) ?_
          refine bw_aload_n hx hb d_La_law_285 rfl (lv_at hl 0 rfl) ?_
          refine lv_iload hx hb d_La_law_286 (lv_at hl 4 rfl) ?_
          refine lv_iconst (v := 1) hx hb d_La_law_288 (by decide) ?_
          refine lv_iadd hx hb d_La_law_289 ?_
          obtain ⟨h76, hq⟩ := hq
          refine va_sld hx hb hX hbl hbA hW.2.2 h76 d_La_law_290 ?_
          refine bw_aload_n hx hb d_La_law_291 rfl (lv_at hl 0 rfl) ?_
          refine lv_iload hx hb d_La_law_292 (lv_at hl 4 rfl) ?_
          refine lv_iconst (v := 2) hx hb d_La_law_294 (by decide) ?_
          refine lv_iadd hx hb d_La_law_295 ?_
          obtain ⟨h77, hq⟩ := hq
          refine va_sld hx hb hX hbl hbA hW.2.2 h77 d_La_law_296 ?_
          refine bw_aload_n hx hb d_La_law_297 rfl (lv_at hl 0 rfl) ?_
          refine lv_iload hx hb d_La_law_298 (lv_at hl 4 rfl) ?_
          refine lv_iconst (v := 3) hx hb d_La_law_300 (by decide) ?_
          refine lv_iadd hx hb d_La_law_301 ?_
          obtain ⟨h78, hq⟩ := hq
          refine va_sld hx hb hX hbl hbA hW.2.2 h78 d_La_law_302 ?_
          refine lv_if_eq (tgt := 310) hx hb d_La_law_303 (by decide) (fun c79 => ?_) (fun c79 => ?_)
          · have hq := hq.1 c79
            refine lv_iconst (v := 0) hx hb d_La_law_310 (by decide) ?_
            exact k_La_law_311 C hX hbl hK23 _ _ _ _ _ _ _ _ _ _ _ hq _ _ _ _ _ hW (lv_sub hl [0, 1, 2, 3, 4] rfl) hc hs
          · have hq := hq.2 c79
            refine lv_iconst (v := 1) hx hb d_La_law_306 (by decide) ?_
            refine lv_goto (tgt := 311) hx hb d_La_law_307 (by decide) ?_
            exact k_La_law_311 C hX hbl hK23 _ _ _ _ _ _ _ _ _ _ _ hq _ _ _ _ _ hW (lv_sub hl [0, 1, 2, 3, 4] rfl) hc hs
        · have hq := hq.2.2.2.1 c3
          refine lv_tableIn (tgt := 360) hx hb d_La_law_39 (by rw [c3]; decide) (by rw [c3]; decide) (by rw [c3]; rfl) (by decide) ?_
          refine bw_aload_n hx hb d_La_law_360 rfl (lv_at hl 1 rfl) ?_
          refine bw_aload_n hx hb d_La_law_361 rfl (lv_at hl 0 rfl) ?_
          refine lv_iload hx hb d_La_law_362 (lv_at hl 4 rfl) ?_
          refine lv_iconst (v := 1) hx hb d_La_law_364 (by decide) ?_
          refine lv_iadd hx hb d_La_law_365 ?_
          obtain ⟨h80, hq⟩ := hq
          refine va_sld hx hb hX hbl hbA hW.2.2 h80 d_La_law_366 ?_
          obtain ⟨k83, k84, h85, h86, hq⟩ := hq
          refine bw_callSW (nA := 2) (hh := [(0, 5, 8, 13)]) (As := [va_rf x1, .int (xs (x4 + (1 : Int32)).toNatClampNeg)]) (rest := []) C hW m_384 m_0 m_382 m_383 (by decide) (by decide +kernel) d_La_law_367 rfl rfl hl.1 (by decide) ⟨Nat.le_of_ble_eq_true rfl, Nat.le_of_ble_eq_true rfl⟩ ⟨Nat.le_trans (Nat.add_le_add_left h85 _) hc, Nat.le_trans (Nat.add_le_add_left h86 _) hs⟩ (c_La_gaps hl0 _ _ _ _ _ hq) (fun v81 w82 H locs hv hW => ?_)
          obtain ⟨i87, rfl, hq⟩ := hv
          have hc := bw_bud hc h85
          have hs := bw_bud hs h86
          refine W.eq (g2 := F0 m 370 ls [.int i87]) rfl ?_
          refine lv_istore (lv' := [(5, .int i87), (0, va_rf (some x0)), (1, va_rf x1), (2, va_rf x2), (3, va_rf x3), (4, .int x4)]) hx hb d_La_law_370 hl (by decide) (by simp [bw_cat, cat_i, cat_j]) (fun ls hl => ?_)
          refine bw_aload_n hx hb d_La_law_372 rfl (lv_at hl 3 rfl) ?_
          refine bw_aload_n hx hb d_La_law_373 rfl (lv_at hl 1 rfl) ?_
          refine lv_iload hx hb d_La_law_374 (lv_at hl 5 rfl) ?_
          refine lv_iconst (v := 1) hx hb d_La_law_376 (by decide) ?_
          refine lv_iadd hx hb d_La_law_377 ?_
          obtain ⟨h88, hq⟩ := hq
          refine va_sld hx hb hX hbl hbA hW.2.2 h88 d_La_law_378 ?_
          obtain ⟨a89, ea89, hq⟩ := hq
          obtain ⟨t90, hq⟩ := hq
          refine bw_callV (As := [.int (xs (x4 + (1 : Int32)).toNatClampNeg)]) (rest := []) C hW ci_Mo_gaps m_867 m_868 m_869 d_La_law_379 ea89 t90 (by decide) rfl rfl rfl hl.1 (by decide) ⟨Nat.le_of_ble_eq_true rfl, Nat.le_of_ble_eq_true rfl⟩ ⟨Nat.le_trans (Nat.add_le_add_left (Nat.zero_le _) _) hc, Nat.le_trans (Nat.add_le_add_left (Nat.zero_le _) _) hs⟩ (c_Mo_gaps hl0 _ _ _ hq) (fun _ _ _ _ _ _ h => h.elim) (fun v91 w92 H locs hv hW => ?_)
          obtain ⟨rfl, hq⟩ := hv
          have hc := bw_bud0 hc
          have hs := bw_bud0 hs
          refine W.eq (g2 := F0 m 382 ls []) rfl ?_
          refine bw_aload_n hx hb d_La_law_382 rfl (lv_at hl 3 rfl) ?_
          obtain ⟨t98, hq⟩ := hq
          refine bw_callV (As := []) (rest := []) C hW ci_Mo_thrown m_844 m_845 m_846 d_La_law_383 ea89 t98 (by decide) rfl rfl rfl hl.1 (by decide) ⟨Nat.le_of_ble_eq_true rfl, Nat.le_of_ble_eq_true rfl⟩ ⟨Nat.le_trans (Nat.add_le_add_left (Nat.zero_le _) _) hc, Nat.le_trans (Nat.add_le_add_left (Nat.zero_le _) _) hs⟩ (c_Mo_thrown hl0 _ _ hq) (fun _ _ _ _ _ _ h => h.elim) (fun v99 w100 H locs hv hW => ?_)
          obtain ⟨i105, rfl, hq⟩ := hv
          have hc := bw_bud0 hc
          have hs := bw_bud0 hs
          refine W.eq (g2 := F0 m 386 ls [.int i105]) rfl ?_
          refine lv_iload hx hb d_La_law_386 (lv_at hl 0 rfl) ?_
          refine lv_icmp_eq (tgt := 393) hx hb d_La_law_388 (by decide) (fun c106 => ?_) (fun c106 => ?_)
          · have hq := hq.1 c106
            refine lv_goto (tgt := 1225) hx hb d_La_law_393 (by decide) ?_
            exact k_La_law_1225 C hX hbl hK23 _ _ _ _ _ _ _ hq _ _ _ _ _ hW (lv_sub hl [1, 2, 3, 4, 5] rfl) hc hs
          · have hq := hq.2 c106
            refine lv_iconst (v := 0) hx hb d_La_law_391 (by decide) ?_
            exact hq.elim
        · have hq := hq.2.2.2.2.1 c3
          refine lv_tableIn (tgt := 396) hx hb d_La_law_39 (by rw [c3]; decide) (by rw [c3]; decide) (by rw [c3]; rfl) (by decide) ?_
          refine bw_aload_n hx hb d_La_law_396 rfl (lv_at hl 1 rfl) ?_
          refine bw_aload_n hx hb d_La_law_397 rfl (lv_at hl 0 rfl) ?_
          refine lv_iload hx hb d_La_law_398 (lv_at hl 4 rfl) ?_
          refine lv_iconst (v := 1) hx hb d_La_law_400 (by decide) ?_
          refine lv_iadd hx hb d_La_law_401 ?_
          obtain ⟨h107, hq⟩ := hq
          refine va_sld hx hb hX hbl hbA hW.2.2 h107 d_La_law_402 ?_
          refine bw_aload_n hx hb d_La_law_403 rfl (lv_at hl 0 rfl) ?_
          refine lv_iload hx hb d_La_law_404 (lv_at hl 4 rfl) ?_
          refine lv_iconst (v := 2) hx hb d_La_law_406 (by decide) ?_
          refine lv_iadd hx hb d_La_law_407 ?_
          obtain ⟨h108, hq⟩ := hq
          refine va_sld hx hb hX hbl hbA hW.2.2 h108 d_La_law_408 ?_
          refine bw_aload_n hx hb d_La_law_409 rfl (lv_at hl 0 rfl) ?_
          refine lv_iload hx hb d_La_law_410 (lv_at hl 4 rfl) ?_
          refine lv_iconst (v := 3) hx hb d_La_law_412 (by decide) ?_
          refine lv_iadd hx hb d_La_law_413 ?_
          obtain ⟨h109, hq⟩ := hq
          refine va_sld hx hb hX hbl hbA hW.2.2 h109 d_La_law_414 ?_
          refine bw_aload_n hx hb d_La_law_415 rfl (lv_at hl 3 rfl) ?_
          obtain ⟨k112, k113, h114, h115, hq⟩ := hq
          refine bw_callSW (nA := 5) (hh := [(0, 12, 15, 21), (0, 12, 19, 13), (0, 12, 23, 15)]) (As := [va_rf x1, .int (xs (x4 + (1 : Int32)).toNatClampNeg), .int (xs (x4 + (2 : Int32)).toNatClampNeg), .int (xs (x4 + (3 : Int32)).toNatClampNeg), va_rf x3]) (rest := []) C hW m_391 m_0 m_389 m_390 (by decide) (by decide +kernel) d_La_law_416 rfl rfl hl.1 (by decide) ⟨Nat.le_of_ble_eq_true rfl, Nat.le_of_ble_eq_true rfl⟩ ⟨Nat.le_trans (Nat.add_le_add_left h114 _) hc, Nat.le_trans (Nat.add_le_add_left h115 _) hs⟩ (c_La_scanner hl0 _ _ _ _ _ _ _ _ hq) (fun v110 w111 H locs hv hW => ?_)
          obtain ⟨i116, rfl, hq⟩ := hv
          have hc := bw_bud hc h114
          have hs := bw_bud hs h115
          refine W.eq (g2 := F0 m 419 ls [.int i116]) rfl ?_
          refine lv_istore (lv' := [(5, .int i116), (0, va_rf (some x0)), (1, va_rf x1), (2, va_rf x2), (3, va_rf x3), (4, .int x4)]) hx hb d_La_law_419 hl (by decide) (by simp [bw_cat, cat_i, cat_j]) (fun ls hl => ?_)
          refine bw_aload_n hx hb d_La_law_421 rfl (lv_at hl 3 rfl) ?_
          refine bw_aload_n hx hb d_La_law_422 rfl (lv_at hl 1 rfl) ?_
          refine lv_iload hx hb d_La_law_423 (lv_at hl 5 rfl) ?_
          refine lv_iconst (v := 1) hx hb d_La_law_425 (by decide) ?_
          refine lv_iadd hx hb d_La_law_426 ?_
          obtain ⟨h117, hq⟩ := hq
          refine va_sld hx hb hX hbl hbA hW.2.2 h117 d_La_law_427 ?_
          refine bw_aload_n hx hb d_La_law_428 rfl (lv_at hl 1 rfl) ?_
          refine lv_iload hx hb d_La_law_429 (lv_at hl 5 rfl) ?_
          refine lv_iconst (v := 2) hx hb d_La_law_431 (by decide) ?_
          refine lv_iadd hx hb d_La_law_432 ?_
          obtain ⟨h118, hq⟩ := hq
          refine va_sld hx hb hX hbl hbA hW.2.2 h118 d_La_law_433 ?_
          refine bw_aload_n hx hb d_La_law_434 rfl (lv_at hl 1 rfl) ?_
          refine lv_iload hx hb d_La_law_435 (lv_at hl 5 rfl) ?_
          refine lv_iconst (v := 3) hx hb d_La_law_437 (by decide) ?_
          refine lv_iadd hx hb d_La_law_438 ?_
          obtain ⟨h119, hq⟩ := hq
          refine va_sld hx hb hX hbl hbA hW.2.2 h119 d_La_law_439 ?_
          obtain ⟨a120, ea120, hq⟩ := hq
          obtain ⟨t121, hq⟩ := hq
          refine bw_callV (As := [.int (xs (x4 + (1 : Int32)).toNatClampNeg), .int (xs (x4 + (2 : Int32)).toNatClampNeg), .int (xs (x4 + (3 : Int32)).toNatClampNeg)]) (rest := []) C hW ci_Mo_scanner m_871 m_872 m_873 d_La_law_440 ea120 t121 (by decide) rfl rfl rfl hl.1 (by decide) ⟨Nat.le_of_ble_eq_true rfl, Nat.le_of_ble_eq_true rfl⟩ ⟨Nat.le_trans (Nat.add_le_add_left (Nat.zero_le _) _) hc, Nat.le_trans (Nat.add_le_add_left (Nat.zero_le _) _) hs⟩ (c_Mo_scanner hl0 _ _ _ _ _ hq) (fun _ _ _ _ _ _ h => h.elim) (fun v122 w123 H locs hv hW => ?_)
          obtain ⟨i128, rfl, hq⟩ := hv
          have hc := bw_bud0 hc
          have hs := bw_bud0 hs
          refine W.eq (g2 := F0 m 443 ls [.int i128]) rfl ?_
          refine lv_istore (lv' := [(6, .int i128), (5, .int i116), (0, va_rf (some x0)), (1, va_rf x1), (2, va_rf x2), (3, va_rf x3), (4, .int x4)]) hx hb d_La_law_443 hl (by decide) (by simp [bw_cat, cat_i, cat_j]) (fun ls hl => ?_)
          refine bw_aload_n hx hb d_La_law_445 rfl (lv_at hl 4 rfl) ?_
          obtain ⟨t129, hq⟩ := hq
          refine bw_callV (As := []) (rest := []) C hW ci_Mo_thrown m_844 m_845 m_846 d_La_law_446 ea120 t129 (by decide) rfl rfl rfl hl.1 (by decide) ⟨Nat.le_of_ble_eq_true rfl, Nat.le_of_ble_eq_true rfl⟩ ⟨Nat.le_trans (Nat.add_le_add_left (Nat.zero_le _) _) hc, Nat.le_trans (Nat.add_le_add_left (Nat.zero_le _) _) hs⟩ (c_Mo_thrown hl0 _ _ hq) (fun _ _ _ _ _ _ h => h.elim) (fun v130 w131 H locs hv hW => ?_)
          obtain ⟨i136, rfl, hq⟩ := hv
          have hc := bw_bud0 hc
          have hs := bw_bud0 hs
          refine W.eq (g2 := F0 m 449 ls [.int i136]) rfl ?_
          refine lv_iload hx hb d_La_law_449 (lv_at hl 1 rfl) ?_
          refine lv_icmp_eq (tgt := 456) hx hb d_La_law_451 (by decide) (fun c137 => ?_) (fun c137 => ?_)
          · have hq := hq.1 c137
            refine lv_iload hx hb d_La_law_456 (lv_at hl 1 rfl) ?_
            refine lv_if_ne (tgt := 473) hx hb d_La_law_458 (by decide) (fun c138 => ?_) (fun c138 => ?_)
            · have hq := hq.1 c138
              exact k_La_law_473 C hX hbl hK23 _ _ _ _ _ _ _ _ _ hq _ _ _ _ _ hW (lv_sub hl [2, 3, 4, 5, 6, 1, 0] rfl) hc hs
            · have hq := hq.2 c138
              refine bw_aload_n hx hb d_La_law_461 rfl (lv_at hl 5 rfl) ?_
              refine lv_iconst (v := 0) hx hb d_La_law_462 (by decide) ?_
              obtain ⟨a139, ea139, hq⟩ := hq
              obtain ⟨t140, hq⟩ := hq
              obtain ⟨h141, hq⟩ := hq
              refine bw_lald C hW ea139 t140 h141 d_La_law_463 ?_
              refine lv_iload hx hb d_La_law_464 (lv_at hl 0 rfl) ?_
              refine lv_i2l hx hb d_La_law_466 rfl ?_
              refine W.lcmp hx hb d_La_law_467 ?_
              refine lv_if_eq (tgt := 473) hx hb d_La_law_468 (by decide) (fun c142 => ?_) (fun c142 => ?_)
              · have hq := hq.1 c142
                exact k_La_law_473 C hX hbl hK23 _ _ _ _ _ _ _ _ _ hq _ _ _ _ _ hW (lv_sub hl [2, 3, 4, 5, 6, 1, 0] rfl) hc hs
              · have hq := hq.2 c142
                refine lv_iconst (v := 0) hx hb d_La_law_471 (by decide) ?_
                exact hq.elim
          · have hq := hq.2 c137
            refine lv_iconst (v := 0) hx hb d_La_law_454 (by decide) ?_
            exact hq.elim
        · have hq := hq.2.2.2.2.2.1 c3
          refine lv_tableIn (tgt := 476) hx hb d_La_law_39 (by rw [c3]; decide) (by rw [c3]; decide) (by rw [c3]; rfl) (by decide) ?_
          refine bw_aload_n hx hb d_La_law_476 rfl (lv_at hl 1 rfl) ?_
          refine bw_aload_n hx hb d_La_law_477 rfl (lv_at hl 0 rfl) ?_
          refine lv_iload hx hb d_La_law_478 (lv_at hl 4 rfl) ?_
          refine lv_iconst (v := 1) hx hb d_La_law_480 (by decide) ?_
          refine lv_iadd hx hb d_La_law_481 ?_
          obtain ⟨h143, hq⟩ := hq
          refine va_sld hx hb hX hbl hbA hW.2.2 h143 d_La_law_482 ?_
          refine bw_aload_n hx hb d_La_law_483 rfl (lv_at hl 0 rfl) ?_
          refine lv_iload hx hb d_La_law_484 (lv_at hl 4 rfl) ?_
          refine lv_iconst (v := 2) hx hb d_La_law_486 (by decide) ?_
          refine lv_iadd hx hb d_La_law_487 ?_
          obtain ⟨h144, hq⟩ := hq
          refine va_sld hx hb hX hbl hbA hW.2.2 h144 d_La_law_488 ?_
          refine bw_aload_n hx hb d_La_law_489 rfl (lv_at hl 3 rfl) ?_
          obtain ⟨k147, k148, h149, h150, hq⟩ := hq
          refine bw_callSW (nA := 4) (hh := [(0, 10, 13, 21), (0, 10, 17, 13), (0, 10, 21, 15)]) (As := [va_rf x1, .int (xs (x4 + (1 : Int32)).toNatClampNeg), .int (xs (x4 + (2 : Int32)).toNatClampNeg), va_rf x3]) (rest := []) C hW m_422 m_0 m_420 m_421 (by decide) (by decide +kernel) d_La_law_490 rfl rfl hl.1 (by decide) ⟨Nat.le_of_ble_eq_true rfl, Nat.le_of_ble_eq_true rfl⟩ ⟨Nat.le_trans (Nat.add_le_add_left h149 _) hc, Nat.le_trans (Nat.add_le_add_left h150 _) hs⟩ (c_La_item hl0 _ _ _ _ _ _ _ hq) (fun v145 w146 H locs hv hW => ?_)
          obtain ⟨i151, rfl, hq⟩ := hv
          have hc := bw_bud hc h149
          have hs := bw_bud hs h150
          refine W.eq (g2 := F0 m 493 ls [.int i151]) rfl ?_
          refine lv_istore (lv' := [(5, .int i151), (0, va_rf (some x0)), (1, va_rf x1), (2, va_rf x2), (3, va_rf x3), (4, .int x4)]) hx hb d_La_law_493 hl (by decide) (by simp [bw_cat, cat_i, cat_j]) (fun ls hl => ?_)
          refine bw_aload_n hx hb d_La_law_495 rfl (lv_at hl 3 rfl) ?_
          refine bw_aload_n hx hb d_La_law_496 rfl (lv_at hl 1 rfl) ?_
          refine lv_iload hx hb d_La_law_497 (lv_at hl 5 rfl) ?_
          refine lv_iconst (v := 1) hx hb d_La_law_499 (by decide) ?_
          refine lv_iadd hx hb d_La_law_500 ?_
          obtain ⟨h152, hq⟩ := hq
          refine va_sld hx hb hX hbl hbA hW.2.2 h152 d_La_law_501 ?_
          refine bw_aload_n hx hb d_La_law_502 rfl (lv_at hl 1 rfl) ?_
          refine lv_iload hx hb d_La_law_503 (lv_at hl 5 rfl) ?_
          refine lv_iconst (v := 2) hx hb d_La_law_505 (by decide) ?_
          refine lv_iadd hx hb d_La_law_506 ?_
          obtain ⟨h153, hq⟩ := hq
          refine va_sld hx hb hX hbl hbA hW.2.2 h153 d_La_law_507 ?_
          obtain ⟨a154, ea154, hq⟩ := hq
          obtain ⟨t155, hq⟩ := hq
          refine bw_callV (As := [.int (xs (x4 + (1 : Int32)).toNatClampNeg), .int (xs (x4 + (2 : Int32)).toNatClampNeg)]) (rest := []) C hW ci_Mo_item m_875 m_876 m_877 d_La_law_508 ea154 t155 (by decide) rfl rfl rfl hl.1 (by decide) ⟨Nat.le_of_ble_eq_true rfl, Nat.le_of_ble_eq_true rfl⟩ ⟨Nat.le_trans (Nat.add_le_add_left (Nat.zero_le _) _) hc, Nat.le_trans (Nat.add_le_add_left (Nat.zero_le _) _) hs⟩ (c_Mo_item hl0 _ _ _ _ hq) (fun _ _ _ _ _ _ h => h.elim) (fun v156 w157 H locs hv hW => ?_)
          obtain ⟨i162, rfl, hq⟩ := hv
          have hc := bw_bud0 hc
          have hs := bw_bud0 hs
          refine W.eq (g2 := F0 m 511 ls [.int i162]) rfl ?_
          refine lv_istore (lv' := [(6, .int i162), (5, .int i151), (0, va_rf (some x0)), (1, va_rf x1), (2, va_rf x2), (3, va_rf x3), (4, .int x4)]) hx hb d_La_law_511 hl (by decide) (by simp [bw_cat, cat_i, cat_j]) (fun ls hl => ?_)
          refine bw_aload_n hx hb d_La_law_513 rfl (lv_at hl 4 rfl) ?_
          obtain ⟨t163, hq⟩ := hq
          refine bw_callV (As := []) (rest := []) C hW ci_Mo_thrown m_844 m_845 m_846 d_La_law_514 ea154 t163 (by decide) rfl rfl rfl hl.1 (by decide) ⟨Nat.le_of_ble_eq_true rfl, Nat.le_of_ble_eq_true rfl⟩ ⟨Nat.le_trans (Nat.add_le_add_left (Nat.zero_le _) _) hc, Nat.le_trans (Nat.add_le_add_left (Nat.zero_le _) _) hs⟩ (c_Mo_thrown hl0 _ _ hq) (fun _ _ _ _ _ _ h => h.elim) (fun v164 w165 H locs hv hW => ?_)
          obtain ⟨i170, rfl, hq⟩ := hv
          have hc := bw_bud0 hc
          have hs := bw_bud0 hs
          refine W.eq (g2 := F0 m 517 ls [.int i170]) rfl ?_
          refine lv_iload hx hb d_La_law_517 (lv_at hl 1 rfl) ?_
          refine lv_icmp_eq (tgt := 524) hx hb d_La_law_519 (by decide) (fun c171 => ?_) (fun c171 => ?_)
          · have hq := hq.1 c171
            refine lv_iload hx hb d_La_law_524 (lv_at hl 1 rfl) ?_
            refine lv_if_ne (tgt := 541) hx hb d_La_law_526 (by decide) (fun c172 => ?_) (fun c172 => ?_)
            · have hq := hq.1 c172
              exact k_La_law_541 C hX hbl hK23 _ _ _ _ _ _ _ _ _ hq _ _ _ _ _ hW (lv_sub hl [2, 3, 4, 5, 6, 1, 0] rfl) hc hs
            · have hq := hq.2 c172
              refine bw_aload_n hx hb d_La_law_529 rfl (lv_at hl 5 rfl) ?_
              refine lv_iconst (v := 0) hx hb d_La_law_530 (by decide) ?_
              obtain ⟨a173, ea173, hq⟩ := hq
              obtain ⟨t174, hq⟩ := hq
              obtain ⟨h175, hq⟩ := hq
              refine bw_lald C hW ea173 t174 h175 d_La_law_531 ?_
              refine lv_iload hx hb d_La_law_532 (lv_at hl 0 rfl) ?_
              refine lv_i2l hx hb d_La_law_534 rfl ?_
              refine W.lcmp hx hb d_La_law_535 ?_
              refine lv_if_eq (tgt := 541) hx hb d_La_law_536 (by decide) (fun c176 => ?_) (fun c176 => ?_)
              · have hq := hq.1 c176
                exact k_La_law_541 C hX hbl hK23 _ _ _ _ _ _ _ _ _ hq _ _ _ _ _ hW (lv_sub hl [2, 3, 4, 5, 6, 1, 0] rfl) hc hs
              · have hq := hq.2 c176
                refine lv_iconst (v := 0) hx hb d_La_law_539 (by decide) ?_
                exact hq.elim
          · have hq := hq.2 c171
            refine lv_iconst (v := 0) hx hb d_La_law_522 (by decide) ?_
            exact hq.elim
        · have hq := hq.2.2.2.2.2.2.1 c3
          refine lv_tableIn (tgt := 544) hx hb d_La_law_39 (by rw [c3]; decide) (by rw [c3]; decide) (by rw [c3]; rfl) (by decide) ?_
          refine bw_aload_n hx hb d_La_law_544 rfl (lv_at hl 1 rfl) ?_
          refine bw_aload_n hx hb d_La_law_545 rfl (lv_at hl 0 rfl) ?_
          refine lv_iload hx hb d_La_law_546 (lv_at hl 4 rfl) ?_
          refine lv_iconst (v := 1) hx hb d_La_law_548 (by decide) ?_
          refine lv_iadd hx hb d_La_law_549 ?_
          obtain ⟨h177, hq⟩ := hq
          refine va_sld hx hb hX hbl hbA hW.2.2 h177 d_La_law_550 ?_
          refine bw_aload_n hx hb d_La_law_551 rfl (lv_at hl 0 rfl) ?_
          refine lv_iload hx hb d_La_law_552 (lv_at hl 4 rfl) ?_
          refine lv_iconst (v := 2) hx hb d_La_law_554 (by decide) ?_
          refine lv_iadd hx hb d_La_law_555 ?_
          obtain ⟨h178, hq⟩ := hq
          refine va_sld hx hb hX hbl hbA hW.2.2 h178 d_La_law_556 ?_
          refine bw_aload_n hx hb d_La_law_557 rfl (lv_at hl 3 rfl) ?_
          obtain ⟨k181, k182, h183, h184, hq⟩ := hq
          refine bw_callSW (nA := 4) (hh := [(0, 10, 13, 21), (0, 10, 17, 13), (0, 10, 21, 41)]) (As := [va_rf x1, .int (xs (x4 + (1 : Int32)).toNatClampNeg), .int (xs (x4 + (2 : Int32)).toNatClampNeg), va_rf x3]) (rest := []) C hW m_505 m_0 m_503 m_504 (by decide) (by decide +kernel) d_La_law_558 rfl rfl hl.1 (by decide) ⟨Nat.le_of_ble_eq_true rfl, Nat.le_of_ble_eq_true rfl⟩ ⟨Nat.le_trans (Nat.add_le_add_left h183 _) hc, Nat.le_trans (Nat.add_le_add_left h184 _) hs⟩ (c_La_divert hl0 _ _ _ _ _ _ _ hq) (fun v179 w180 H locs hv hW => ?_)
          obtain ⟨i185, rfl, hq⟩ := hv
          have hc := bw_bud hc h183
          have hs := bw_bud hs h184
          refine W.eq (g2 := F0 m 561 ls [.int i185]) rfl ?_
          refine lv_istore (lv' := [(5, .int i185), (0, va_rf (some x0)), (1, va_rf x1), (2, va_rf x2), (3, va_rf x3), (4, .int x4)]) hx hb d_La_law_561 hl (by decide) (by simp [bw_cat, cat_i, cat_j]) (fun ls hl => ?_)
          refine bw_aload_n hx hb d_La_law_563 rfl (lv_at hl 3 rfl) ?_
          refine bw_aload_n hx hb d_La_law_564 rfl (lv_at hl 1 rfl) ?_
          refine lv_iload hx hb d_La_law_565 (lv_at hl 5 rfl) ?_
          refine lv_iconst (v := 1) hx hb d_La_law_567 (by decide) ?_
          refine lv_iadd hx hb d_La_law_568 ?_
          obtain ⟨h186, hq⟩ := hq
          refine va_sld hx hb hX hbl hbA hW.2.2 h186 d_La_law_569 ?_
          refine bw_aload_n hx hb d_La_law_570 rfl (lv_at hl 1 rfl) ?_
          refine lv_iload hx hb d_La_law_571 (lv_at hl 5 rfl) ?_
          refine lv_iconst (v := 2) hx hb d_La_law_573 (by decide) ?_
          refine lv_iadd hx hb d_La_law_574 ?_
          obtain ⟨h187, hq⟩ := hq
          refine va_sld hx hb hX hbl hbA hW.2.2 h187 d_La_law_575 ?_
          obtain ⟨a188, ea188, hq⟩ := hq
          obtain ⟨t189, hq⟩ := hq
          refine bw_callV (As := [.int (xs (x4 + (1 : Int32)).toNatClampNeg), .int (xs (x4 + (2 : Int32)).toNatClampNeg)]) (rest := []) C hW ci_Mo_divert m_895 m_896 m_897 d_La_law_576 ea188 t189 (by decide) rfl rfl rfl hl.1 (by decide) ⟨Nat.le_of_ble_eq_true rfl, Nat.le_of_ble_eq_true rfl⟩ ⟨Nat.le_trans (Nat.add_le_add_left (Nat.zero_le _) _) hc, Nat.le_trans (Nat.add_le_add_left (Nat.zero_le _) _) hs⟩ (c_Mo_divert hl0 _ _ _ _ hq) (fun _ _ _ _ _ _ h => h.elim) (fun v190 w191 H locs hv hW => ?_)
          obtain ⟨i196, rfl, hq⟩ := hv
          have hc := bw_bud0 hc
          have hs := bw_bud0 hs
          refine W.eq (g2 := F0 m 579 ls [.int i196]) rfl ?_
          refine lv_istore (lv' := [(6, .int i196), (5, .int i185), (0, va_rf (some x0)), (1, va_rf x1), (2, va_rf x2), (3, va_rf x3), (4, .int x4)]) hx hb d_La_law_579 hl (by decide) (by simp [bw_cat, cat_i, cat_j]) (fun ls hl => ?_)
          refine bw_aload_n hx hb d_La_law_581 rfl (lv_at hl 4 rfl) ?_
          obtain ⟨t197, hq⟩ := hq
          refine bw_callV (As := []) (rest := []) C hW ci_Mo_thrown m_844 m_845 m_846 d_La_law_582 ea188 t197 (by decide) rfl rfl rfl hl.1 (by decide) ⟨Nat.le_of_ble_eq_true rfl, Nat.le_of_ble_eq_true rfl⟩ ⟨Nat.le_trans (Nat.add_le_add_left (Nat.zero_le _) _) hc, Nat.le_trans (Nat.add_le_add_left (Nat.zero_le _) _) hs⟩ (c_Mo_thrown hl0 _ _ hq) (fun _ _ _ _ _ _ h => h.elim) (fun v198 w199 H locs hv hW => ?_)
          obtain ⟨i204, rfl, hq⟩ := hv
          have hc := bw_bud0 hc
          have hs := bw_bud0 hs
          refine W.eq (g2 := F0 m 585 ls [.int i204]) rfl ?_
          refine lv_iload hx hb d_La_law_585 (lv_at hl 1 rfl) ?_
          refine lv_icmp_eq (tgt := 592) hx hb d_La_law_587 (by decide) (fun c205 => ?_) (fun c205 => ?_)
          · have hq := hq.1 c205
            refine lv_iload hx hb d_La_law_592 (lv_at hl 1 rfl) ?_
            refine lv_if_ne (tgt := 609) hx hb d_La_law_594 (by decide) (fun c206 => ?_) (fun c206 => ?_)
            · have hq := hq.1 c206
              exact k_La_law_609 C hX hbl hK23 _ _ _ _ _ _ _ _ _ hq _ _ _ _ _ hW (lv_sub hl [2, 3, 4, 5, 6, 1, 0] rfl) hc hs
            · have hq := hq.2 c206
              refine bw_aload_n hx hb d_La_law_597 rfl (lv_at hl 5 rfl) ?_
              refine lv_iconst (v := 0) hx hb d_La_law_598 (by decide) ?_
              obtain ⟨a207, ea207, hq⟩ := hq
              obtain ⟨t208, hq⟩ := hq
              obtain ⟨h209, hq⟩ := hq
              refine bw_lald C hW ea207 t208 h209 d_La_law_599 ?_
              refine lv_iload hx hb d_La_law_600 (lv_at hl 0 rfl) ?_
              refine lv_i2l hx hb d_La_law_602 rfl ?_
              refine W.lcmp hx hb d_La_law_603 ?_
              refine lv_if_eq (tgt := 609) hx hb d_La_law_604 (by decide) (fun c210 => ?_) (fun c210 => ?_)
              · have hq := hq.1 c210
                exact k_La_law_609 C hX hbl hK23 _ _ _ _ _ _ _ _ _ hq _ _ _ _ _ hW (lv_sub hl [2, 3, 4, 5, 6, 1, 0] rfl) hc hs
              · have hq := hq.2 c210
                refine lv_iconst (v := 0) hx hb d_La_law_607 (by decide) ?_
                exact hq.elim
          · have hq := hq.2 c205
            refine lv_iconst (v := 0) hx hb d_La_law_590 (by decide) ?_
            exact hq.elim
        · have hq := hq.2.2.2.2.2.2.2.1 c3
          refine lv_tableIn (tgt := 612) hx hb d_La_law_39 (by rw [c3]; decide) (by rw [c3]; decide) (by rw [c3]; rfl) (by decide) ?_
          refine bw_aload_n hx hb d_La_law_612 rfl (lv_at hl 1 rfl) ?_
          refine bw_aload_n hx hb d_La_law_613 rfl (lv_at hl 0 rfl) ?_
          refine lv_iload hx hb d_La_law_614 (lv_at hl 4 rfl) ?_
          refine lv_iconst (v := 1) hx hb d_La_law_616 (by decide) ?_
          refine lv_iadd hx hb d_La_law_617 ?_
          obtain ⟨h211, hq⟩ := hq
          refine va_sld hx hb hX hbl hbA hW.2.2 h211 d_La_law_618 ?_
          refine bw_aload_n hx hb d_La_law_619 rfl (lv_at hl 3 rfl) ?_
          obtain ⟨k214, k215, h216, h217, hq⟩ := hq
          refine bw_callSW (nA := 3) (hh := [(0, 9, 12, 13)]) (As := [va_rf x1, .int (xs (x4 + (1 : Int32)).toNatClampNeg), va_rf x3]) (rest := []) C hW m_537 m_0 m_535 m_536 (by decide) (by decide +kernel) d_La_law_620 rfl rfl hl.1 (by decide) ⟨Nat.le_of_ble_eq_true rfl, Nat.le_of_ble_eq_true rfl⟩ ⟨Nat.le_trans (Nat.add_le_add_left h216 _) hc, Nat.le_trans (Nat.add_le_add_left h217 _) hs⟩ (c_La_step hl0 _ _ _ _ _ _ hq) (fun v212 w213 H locs hv hW => ?_)
          obtain ⟨i218, rfl, hq⟩ := hv
          have hc := bw_bud hc h216
          have hs := bw_bud hs h217
          refine W.eq (g2 := F0 m 623 ls [.int i218]) rfl ?_
          refine lv_istore (lv' := [(5, .int i218), (0, va_rf (some x0)), (1, va_rf x1), (2, va_rf x2), (3, va_rf x3), (4, .int x4)]) hx hb d_La_law_623 hl (by decide) (by simp [bw_cat, cat_i, cat_j]) (fun ls hl => ?_)
          refine bw_aload_n hx hb d_La_law_625 rfl (lv_at hl 3 rfl) ?_
          refine bw_aload_n hx hb d_La_law_626 rfl (lv_at hl 1 rfl) ?_
          refine lv_iload hx hb d_La_law_627 (lv_at hl 5 rfl) ?_
          refine lv_iconst (v := 1) hx hb d_La_law_629 (by decide) ?_
          refine lv_iadd hx hb d_La_law_630 ?_
          obtain ⟨h219, hq⟩ := hq
          refine va_sld hx hb hX hbl hbA hW.2.2 h219 d_La_law_631 ?_
          obtain ⟨a220, ea220, hq⟩ := hq
          obtain ⟨t221, hq⟩ := hq
          refine bw_callV (As := [.int (xs (x4 + (1 : Int32)).toNatClampNeg)]) (rest := []) C hW ci_Mo_step m_903 m_904 m_905 d_La_law_632 ea220 t221 (by decide) rfl rfl rfl hl.1 (by decide) ⟨Nat.le_of_ble_eq_true rfl, Nat.le_of_ble_eq_true rfl⟩ ⟨Nat.le_trans (Nat.add_le_add_left (Nat.zero_le _) _) hc, Nat.le_trans (Nat.add_le_add_left (Nat.zero_le _) _) hs⟩ (c_Mo_step hl0 _ _ _ hq) (fun _ _ _ _ _ _ h => h.elim) (fun v222 w223 H locs hv hW => ?_)
          obtain ⟨i228, rfl, hq⟩ := hv
          have hc := bw_bud0 hc
          have hs := bw_bud0 hs
          refine W.eq (g2 := F0 m 635 ls [.int i228]) rfl ?_
          refine lv_istore (lv' := [(6, .int i228), (5, .int i218), (0, va_rf (some x0)), (1, va_rf x1), (2, va_rf x2), (3, va_rf x3), (4, .int x4)]) hx hb d_La_law_635 hl (by decide) (by simp [bw_cat, cat_i, cat_j]) (fun ls hl => ?_)
          refine bw_aload_n hx hb d_La_law_637 rfl (lv_at hl 4 rfl) ?_
          obtain ⟨t229, hq⟩ := hq
          refine bw_callV (As := []) (rest := []) C hW ci_Mo_thrown m_844 m_845 m_846 d_La_law_638 ea220 t229 (by decide) rfl rfl rfl hl.1 (by decide) ⟨Nat.le_of_ble_eq_true rfl, Nat.le_of_ble_eq_true rfl⟩ ⟨Nat.le_trans (Nat.add_le_add_left (Nat.zero_le _) _) hc, Nat.le_trans (Nat.add_le_add_left (Nat.zero_le _) _) hs⟩ (c_Mo_thrown hl0 _ _ hq) (fun _ _ _ _ _ _ h => h.elim) (fun v230 w231 H locs hv hW => ?_)
          obtain ⟨i236, rfl, hq⟩ := hv
          have hc := bw_bud0 hc
          have hs := bw_bud0 hs
          refine W.eq (g2 := F0 m 641 ls [.int i236]) rfl ?_
          refine lv_iload hx hb d_La_law_641 (lv_at hl 1 rfl) ?_
          refine lv_icmp_eq (tgt := 648) hx hb d_La_law_643 (by decide) (fun c237 => ?_) (fun c237 => ?_)
          · have hq := hq.1 c237
            refine lv_iload hx hb d_La_law_648 (lv_at hl 1 rfl) ?_
            refine lv_if_ne (tgt := 665) hx hb d_La_law_650 (by decide) (fun c238 => ?_) (fun c238 => ?_)
            · have hq := hq.1 c238
              exact k_La_law_665 C hX hbl hK23 _ _ _ _ _ _ _ _ _ hq _ _ _ _ _ hW (lv_sub hl [2, 3, 4, 5, 6, 1, 0] rfl) hc hs
            · have hq := hq.2 c238
              refine bw_aload_n hx hb d_La_law_653 rfl (lv_at hl 5 rfl) ?_
              refine lv_iconst (v := 0) hx hb d_La_law_654 (by decide) ?_
              obtain ⟨a239, ea239, hq⟩ := hq
              obtain ⟨t240, hq⟩ := hq
              obtain ⟨h241, hq⟩ := hq
              refine bw_lald C hW ea239 t240 h241 d_La_law_655 ?_
              refine lv_iload hx hb d_La_law_656 (lv_at hl 0 rfl) ?_
              refine lv_i2l hx hb d_La_law_658 rfl ?_
              refine W.lcmp hx hb d_La_law_659 ?_
              refine lv_if_eq (tgt := 665) hx hb d_La_law_660 (by decide) (fun c242 => ?_) (fun c242 => ?_)
              · have hq := hq.1 c242
                exact k_La_law_665 C hX hbl hK23 _ _ _ _ _ _ _ _ _ hq _ _ _ _ _ hW (lv_sub hl [2, 3, 4, 5, 6, 1, 0] rfl) hc hs
              · have hq := hq.2 c242
                refine lv_iconst (v := 0) hx hb d_La_law_663 (by decide) ?_
                exact hq.elim
          · have hq := hq.2 c237
            refine lv_iconst (v := 0) hx hb d_La_law_646 (by decide) ?_
            exact hq.elim
        · have hq := hq.2.2.2.2.2.2.2.2.1 c3
          refine lv_tableIn (tgt := 668) hx hb d_La_law_39 (by rw [c3]; decide) (by rw [c3]; decide) (by rw [c3]; rfl) (by decide) ?_
          refine bw_aload_n hx hb d_La_law_668 rfl (lv_at hl 1 rfl) ?_
          refine bw_aload_n hx hb d_La_law_669 rfl (lv_at hl 0 rfl) ?_
          refine lv_iload hx hb d_La_law_670 (lv_at hl 4 rfl) ?_
          refine lv_iconst (v := 1) hx hb d_La_law_672 (by decide) ?_
          refine lv_iadd hx hb d_La_law_673 ?_
          obtain ⟨h243, hq⟩ := hq
          refine va_sld hx hb hX hbl hbA hW.2.2 h243 d_La_law_674 ?_
          refine bw_aload_n hx hb d_La_law_675 rfl (lv_at hl 0 rfl) ?_
          refine lv_iload hx hb d_La_law_676 (lv_at hl 4 rfl) ?_
          refine lv_iconst (v := 2) hx hb d_La_law_678 (by decide) ?_
          refine lv_iadd hx hb d_La_law_679 ?_
          obtain ⟨h244, hq⟩ := hq
          refine va_sld hx hb hX hbl hbA hW.2.2 h244 d_La_law_680 ?_
          refine bw_aload_n hx hb d_La_law_681 rfl (lv_at hl 3 rfl) ?_
          obtain ⟨k247, k248, h249, h250, hq⟩ := hq
          refine bw_callSW (nA := 4) (hh := [(0, 10, 13, 21), (0, 10, 17, 13)]) (As := [va_rf x1, .int (xs (x4 + (1 : Int32)).toNatClampNeg), .int (xs (x4 + (2 : Int32)).toNatClampNeg), va_rf x3]) (rest := []) C hW m_647 m_0 m_645 m_646 (by decide) (by decide +kernel) d_La_law_682 rfl rfl hl.1 (by decide) ⟨Nat.le_of_ble_eq_true rfl, Nat.le_of_ble_eq_true rfl⟩ ⟨Nat.le_trans (Nat.add_le_add_left h249 _) hc, Nat.le_trans (Nat.add_le_add_left h250 _) hs⟩ (c_La_edge hl0 _ _ _ _ _ _ _ hq) (fun v245 w246 H locs hv hW => ?_)
          obtain ⟨i251, rfl, hq⟩ := hv
          have hc := bw_bud hc h249
          have hs := bw_bud hs h250
          refine W.eq (g2 := F0 m 685 ls [.int i251]) rfl ?_
          refine lv_istore (lv' := [(5, .int i251), (0, va_rf (some x0)), (1, va_rf x1), (2, va_rf x2), (3, va_rf x3), (4, .int x4)]) hx hb d_La_law_685 hl (by decide) (by simp [bw_cat, cat_i, cat_j]) (fun ls hl => ?_)
          refine bw_aload_n hx hb d_La_law_687 rfl (lv_at hl 3 rfl) ?_
          refine bw_aload_n hx hb d_La_law_688 rfl (lv_at hl 1 rfl) ?_
          refine lv_iload hx hb d_La_law_689 (lv_at hl 5 rfl) ?_
          refine lv_iconst (v := 1) hx hb d_La_law_691 (by decide) ?_
          refine lv_iadd hx hb d_La_law_692 ?_
          obtain ⟨h252, hq⟩ := hq
          refine va_sld hx hb hX hbl hbA hW.2.2 h252 d_La_law_693 ?_
          refine bw_aload_n hx hb d_La_law_694 rfl (lv_at hl 1 rfl) ?_
          refine lv_iload hx hb d_La_law_695 (lv_at hl 5 rfl) ?_
          refine lv_iconst (v := 2) hx hb d_La_law_697 (by decide) ?_
          refine lv_iadd hx hb d_La_law_698 ?_
          obtain ⟨h253, hq⟩ := hq
          refine va_sld hx hb hX hbl hbA hW.2.2 h253 d_La_law_699 ?_
          obtain ⟨a254, ea254, hq⟩ := hq
          obtain ⟨t255, hq⟩ := hq
          refine bw_callV (As := [.int (xs (x4 + (1 : Int32)).toNatClampNeg), .int (xs (x4 + (2 : Int32)).toNatClampNeg)]) (rest := []) C hW ci_Mo_edge m_940 m_941 m_942 d_La_law_700 ea254 t255 (by decide) rfl rfl rfl hl.1 (by decide) ⟨Nat.le_of_ble_eq_true rfl, Nat.le_of_ble_eq_true rfl⟩ ⟨Nat.le_trans (Nat.add_le_add_left (Nat.zero_le _) _) hc, Nat.le_trans (Nat.add_le_add_left (Nat.zero_le _) _) hs⟩ (c_Mo_edge hl0 _ _ _ _ hq) (fun _ _ _ _ _ _ h => h.elim) (fun v256 w257 H locs hv hW => ?_)
          obtain ⟨i262, rfl, hq⟩ := hv
          have hc := bw_bud0 hc
          have hs := bw_bud0 hs
          refine W.eq (g2 := F0 m 703 ls [.int i262]) rfl ?_
          refine lv_istore (lv' := [(6, .int i262), (5, .int i251), (0, va_rf (some x0)), (1, va_rf x1), (2, va_rf x2), (3, va_rf x3), (4, .int x4)]) hx hb d_La_law_703 hl (by decide) (by simp [bw_cat, cat_i, cat_j]) (fun ls hl => ?_)
          refine bw_aload_n hx hb d_La_law_705 rfl (lv_at hl 4 rfl) ?_
          obtain ⟨t263, hq⟩ := hq
          refine bw_callV (As := []) (rest := []) C hW ci_Mo_thrown m_844 m_845 m_846 d_La_law_706 ea254 t263 (by decide) rfl rfl rfl hl.1 (by decide) ⟨Nat.le_of_ble_eq_true rfl, Nat.le_of_ble_eq_true rfl⟩ ⟨Nat.le_trans (Nat.add_le_add_left (Nat.zero_le _) _) hc, Nat.le_trans (Nat.add_le_add_left (Nat.zero_le _) _) hs⟩ (c_Mo_thrown hl0 _ _ hq) (fun _ _ _ _ _ _ h => h.elim) (fun v264 w265 H locs hv hW => ?_)
          obtain ⟨i270, rfl, hq⟩ := hv
          have hc := bw_bud0 hc
          have hs := bw_bud0 hs
          refine W.eq (g2 := F0 m 709 ls [.int i270]) rfl ?_
          refine lv_iload hx hb d_La_law_709 (lv_at hl 1 rfl) ?_
          refine lv_icmp_eq (tgt := 716) hx hb d_La_law_711 (by decide) (fun c271 => ?_) (fun c271 => ?_)
          · have hq := hq.1 c271
            refine lv_iload hx hb d_La_law_716 (lv_at hl 1 rfl) ?_
            refine lv_if_ne (tgt := 733) hx hb d_La_law_718 (by decide) (fun c272 => ?_) (fun c272 => ?_)
            · have hq := hq.1 c272
              exact k_La_law_733 C hX hbl hK23 _ _ _ _ _ _ _ _ _ hq _ _ _ _ _ hW (lv_sub hl [2, 3, 4, 5, 6, 1, 0] rfl) hc hs
            · have hq := hq.2 c272
              refine bw_aload_n hx hb d_La_law_721 rfl (lv_at hl 5 rfl) ?_
              refine lv_iconst (v := 0) hx hb d_La_law_722 (by decide) ?_
              obtain ⟨a273, ea273, hq⟩ := hq
              obtain ⟨t274, hq⟩ := hq
              obtain ⟨h275, hq⟩ := hq
              refine bw_lald C hW ea273 t274 h275 d_La_law_723 ?_
              refine lv_iload hx hb d_La_law_724 (lv_at hl 0 rfl) ?_
              refine lv_i2l hx hb d_La_law_726 rfl ?_
              refine W.lcmp hx hb d_La_law_727 ?_
              refine lv_if_eq (tgt := 733) hx hb d_La_law_728 (by decide) (fun c276 => ?_) (fun c276 => ?_)
              · have hq := hq.1 c276
                exact k_La_law_733 C hX hbl hK23 _ _ _ _ _ _ _ _ _ hq _ _ _ _ _ hW (lv_sub hl [2, 3, 4, 5, 6, 1, 0] rfl) hc hs
              · have hq := hq.2 c276
                refine lv_iconst (v := 0) hx hb d_La_law_731 (by decide) ?_
                exact hq.elim
          · have hq := hq.2 c271
            refine lv_iconst (v := 0) hx hb d_La_law_714 (by decide) ?_
            exact hq.elim
        · have hq := hq.2.2.2.2.2.2.2.2.2.1 c3
          refine lv_tableIn (tgt := 736) hx hb d_La_law_39 (by rw [c3]; decide) (by rw [c3]; decide) (by rw [c3]; rfl) (by decide) ?_
          refine bw_aload_n hx hb d_La_law_736 rfl (lv_at hl 1 rfl) ?_
          refine bw_aload_n hx hb d_La_law_737 rfl (lv_at hl 0 rfl) ?_
          refine lv_iload hx hb d_La_law_738 (lv_at hl 4 rfl) ?_
          refine lv_iconst (v := 1) hx hb d_La_law_740 (by decide) ?_
          refine lv_iadd hx hb d_La_law_741 ?_
          obtain ⟨h277, hq⟩ := hq
          refine va_sld hx hb hX hbl hbA hW.2.2 h277 d_La_law_742 ?_
          refine bw_aload_n hx hb d_La_law_743 rfl (lv_at hl 0 rfl) ?_
          refine lv_iload hx hb d_La_law_744 (lv_at hl 4 rfl) ?_
          refine lv_iconst (v := 2) hx hb d_La_law_746 (by decide) ?_
          refine lv_iadd hx hb d_La_law_747 ?_
          obtain ⟨h278, hq⟩ := hq
          refine va_sld hx hb hX hbl hbA hW.2.2 h278 d_La_law_748 ?_
          refine bw_aload_n hx hb d_La_law_749 rfl (lv_at hl 3 rfl) ?_
          obtain ⟨k281, k282, h283, h284, hq⟩ := hq
          refine bw_callSW (nA := 4) (hh := [(0, 10, 13, 21), (0, 10, 17, 13), (0, 10, 21, 41)]) (As := [va_rf x1, .int (xs (x4 + (1 : Int32)).toNatClampNeg), .int (xs (x4 + (2 : Int32)).toNatClampNeg), va_rf x3]) (rest := []) C hW m_656 m_0 m_654 m_655 (by decide) (by decide +kernel) d_La_law_750 rfl rfl hl.1 (by decide) ⟨Nat.le_of_ble_eq_true rfl, Nat.le_of_ble_eq_true rfl⟩ ⟨Nat.le_trans (Nat.add_le_add_left h283 _) hc, Nat.le_trans (Nat.add_le_add_left h284 _) hs⟩ (c_La_slip hl0 _ _ _ _ _ _ _ hq) (fun v279 w280 H locs hv hW => ?_)
          obtain ⟨i285, rfl, hq⟩ := hv
          have hc := bw_bud hc h283
          have hs := bw_bud hs h284
          refine W.eq (g2 := F0 m 753 ls [.int i285]) rfl ?_
          refine lv_istore (lv' := [(5, .int i285), (0, va_rf (some x0)), (1, va_rf x1), (2, va_rf x2), (3, va_rf x3), (4, .int x4)]) hx hb d_La_law_753 hl (by decide) (by simp [bw_cat, cat_i, cat_j]) (fun ls hl => ?_)
          refine bw_aload_n hx hb d_La_law_755 rfl (lv_at hl 3 rfl) ?_
          refine bw_aload_n hx hb d_La_law_756 rfl (lv_at hl 1 rfl) ?_
          refine lv_iload hx hb d_La_law_757 (lv_at hl 5 rfl) ?_
          refine lv_iconst (v := 1) hx hb d_La_law_759 (by decide) ?_
          refine lv_iadd hx hb d_La_law_760 ?_
          obtain ⟨h286, hq⟩ := hq
          refine va_sld hx hb hX hbl hbA hW.2.2 h286 d_La_law_761 ?_
          refine bw_aload_n hx hb d_La_law_762 rfl (lv_at hl 1 rfl) ?_
          refine lv_iload hx hb d_La_law_763 (lv_at hl 5 rfl) ?_
          refine lv_iconst (v := 2) hx hb d_La_law_765 (by decide) ?_
          refine lv_iadd hx hb d_La_law_766 ?_
          obtain ⟨h287, hq⟩ := hq
          refine va_sld hx hb hX hbl hbA hW.2.2 h287 d_La_law_767 ?_
          obtain ⟨a288, ea288, hq⟩ := hq
          obtain ⟨t289, hq⟩ := hq
          refine bw_callV (As := [.int (xs (x4 + (1 : Int32)).toNatClampNeg), .int (xs (x4 + (2 : Int32)).toNatClampNeg)]) (rest := []) C hW ci_Mo_slip m_945 m_946 m_947 d_La_law_768 ea288 t289 (by decide) rfl rfl rfl hl.1 (by decide) ⟨Nat.le_of_ble_eq_true rfl, Nat.le_of_ble_eq_true rfl⟩ ⟨Nat.le_trans (Nat.add_le_add_left (Nat.zero_le _) _) hc, Nat.le_trans (Nat.add_le_add_left (Nat.zero_le _) _) hs⟩ (c_Mo_slip hl0 _ _ _ _ hq) (fun _ _ _ _ _ _ h => h.elim) (fun v290 w291 H locs hv hW => ?_)
          obtain ⟨i296, rfl, hq⟩ := hv
          have hc := bw_bud0 hc
          have hs := bw_bud0 hs
          refine W.eq (g2 := F0 m 771 ls [.int i296]) rfl ?_
          refine lv_istore (lv' := [(6, .int i296), (5, .int i285), (0, va_rf (some x0)), (1, va_rf x1), (2, va_rf x2), (3, va_rf x3), (4, .int x4)]) hx hb d_La_law_771 hl (by decide) (by simp [bw_cat, cat_i, cat_j]) (fun ls hl => ?_)
          refine bw_aload_n hx hb d_La_law_773 rfl (lv_at hl 4 rfl) ?_
          obtain ⟨t297, hq⟩ := hq
          refine bw_callV (As := []) (rest := []) C hW ci_Mo_thrown m_844 m_845 m_846 d_La_law_774 ea288 t297 (by decide) rfl rfl rfl hl.1 (by decide) ⟨Nat.le_of_ble_eq_true rfl, Nat.le_of_ble_eq_true rfl⟩ ⟨Nat.le_trans (Nat.add_le_add_left (Nat.zero_le _) _) hc, Nat.le_trans (Nat.add_le_add_left (Nat.zero_le _) _) hs⟩ (c_Mo_thrown hl0 _ _ hq) (fun _ _ _ _ _ _ h => h.elim) (fun v298 w299 H locs hv hW => ?_)
          obtain ⟨i304, rfl, hq⟩ := hv
          have hc := bw_bud0 hc
          have hs := bw_bud0 hs
          refine W.eq (g2 := F0 m 777 ls [.int i304]) rfl ?_
          refine lv_iload hx hb d_La_law_777 (lv_at hl 1 rfl) ?_
          refine lv_icmp_eq (tgt := 784) hx hb d_La_law_779 (by decide) (fun c305 => ?_) (fun c305 => ?_)
          · have hq := hq.1 c305
            refine lv_iload hx hb d_La_law_784 (lv_at hl 1 rfl) ?_
            refine lv_if_ne (tgt := 801) hx hb d_La_law_786 (by decide) (fun c306 => ?_) (fun c306 => ?_)
            · have hq := hq.1 c306
              exact k_La_law_801 C hX hbl hK23 _ _ _ _ _ _ _ _ _ hq _ _ _ _ _ hW (lv_sub hl [2, 3, 4, 5, 6, 1, 0] rfl) hc hs
            · have hq := hq.2 c306
              refine bw_aload_n hx hb d_La_law_789 rfl (lv_at hl 5 rfl) ?_
              refine lv_iconst (v := 0) hx hb d_La_law_790 (by decide) ?_
              obtain ⟨a307, ea307, hq⟩ := hq
              obtain ⟨t308, hq⟩ := hq
              obtain ⟨h309, hq⟩ := hq
              refine bw_lald C hW ea307 t308 h309 d_La_law_791 ?_
              refine lv_iload hx hb d_La_law_792 (lv_at hl 0 rfl) ?_
              refine lv_i2l hx hb d_La_law_794 rfl ?_
              refine W.lcmp hx hb d_La_law_795 ?_
              refine lv_if_eq (tgt := 801) hx hb d_La_law_796 (by decide) (fun c310 => ?_) (fun c310 => ?_)
              · have hq := hq.1 c310
                exact k_La_law_801 C hX hbl hK23 _ _ _ _ _ _ _ _ _ hq _ _ _ _ _ hW (lv_sub hl [2, 3, 4, 5, 6, 1, 0] rfl) hc hs
              · have hq := hq.2 c310
                refine lv_iconst (v := 0) hx hb d_La_law_799 (by decide) ?_
                exact hq.elim
          · have hq := hq.2 c305
            refine lv_iconst (v := 0) hx hb d_La_law_782 (by decide) ?_
            exact hq.elim
        · have hq := hq.2.2.2.2.2.2.2.2.2.2.1 c3
          refine lv_tableIn (tgt := 804) hx hb d_La_law_39 (by rw [c3]; decide) (by rw [c3]; decide) (by rw [c3]; rfl) (by decide) ?_
          refine bw_aload_n hx hb d_La_law_804 rfl (lv_at hl 1 rfl) ?_
          refine bw_aload_n hx hb d_La_law_805 rfl (lv_at hl 0 rfl) ?_
          refine lv_iload hx hb d_La_law_806 (lv_at hl 4 rfl) ?_
          refine lv_iconst (v := 1) hx hb d_La_law_808 (by decide) ?_
          refine lv_iadd hx hb d_La_law_809 ?_
          obtain ⟨h311, hq⟩ := hq
          refine va_sld hx hb hX hbl hbA hW.2.2 h311 d_La_law_810 ?_
          obtain ⟨k314, k315, h316, h317, hq⟩ := hq
          refine bw_callSW (nA := 2) (hh := [(0, 5, 8, 21), (0, 5, 11, 41)]) (As := [va_rf x1, .int (xs (x4 + (1 : Int32)).toNatClampNeg)]) (rest := []) C hW m_665 m_0 m_663 m_664 (by decide) (by decide +kernel) d_La_law_811 rfl rfl hl.1 (by decide) ⟨Nat.le_of_ble_eq_true rfl, Nat.le_of_ble_eq_true rfl⟩ ⟨Nat.le_trans (Nat.add_le_add_left h316 _) hc, Nat.le_trans (Nat.add_le_add_left h317 _) hs⟩ (c_La_take hl0 _ _ _ _ _ hq) (fun v312 w313 H locs hv hW => ?_)
          obtain ⟨i318, rfl, hq⟩ := hv
          have hc := bw_bud hc h316
          have hs := bw_bud hs h317
          refine W.eq (g2 := F0 m 814 ls [.int i318]) rfl ?_
          refine lv_istore (lv' := [(5, .int i318), (0, va_rf (some x0)), (1, va_rf x1), (2, va_rf x2), (3, va_rf x3), (4, .int x4)]) hx hb d_La_law_814 hl (by decide) (by simp [bw_cat, cat_i, cat_j]) (fun ls hl => ?_)
          refine bw_aload_n hx hb d_La_law_816 rfl (lv_at hl 3 rfl) ?_
          refine bw_aload_n hx hb d_La_law_817 rfl (lv_at hl 1 rfl) ?_
          refine lv_iload hx hb d_La_law_818 (lv_at hl 5 rfl) ?_
          refine lv_iconst (v := 1) hx hb d_La_law_820 (by decide) ?_
          refine lv_iadd hx hb d_La_law_821 ?_
          obtain ⟨h319, hq⟩ := hq
          refine va_sld hx hb hX hbl hbA hW.2.2 h319 d_La_law_822 ?_
          obtain ⟨a320, ea320, hq⟩ := hq
          obtain ⟨t321, hq⟩ := hq
          refine bw_callV (As := [.int (xs (x4 + (1 : Int32)).toNatClampNeg)]) (rest := []) C hW ci_Mo_take m_949 m_950 m_951 d_La_law_823 ea320 t321 (by decide) rfl rfl rfl hl.1 (by decide) ⟨Nat.le_of_ble_eq_true rfl, Nat.le_of_ble_eq_true rfl⟩ ⟨Nat.le_trans (Nat.add_le_add_left (Nat.zero_le _) _) hc, Nat.le_trans (Nat.add_le_add_left (Nat.zero_le _) _) hs⟩ (c_Mo_take hl0 _ _ _ hq) (fun _ _ _ _ _ _ h => h.elim) (fun v322 w323 H locs hv hW => ?_)
          obtain ⟨rfl, hq⟩ := hv
          have hc := bw_bud0 hc
          have hs := bw_bud0 hs
          refine W.eq (g2 := F0 m 826 ls []) rfl ?_
          refine bw_aload_n hx hb d_La_law_826 rfl (lv_at hl 3 rfl) ?_
          obtain ⟨t329, hq⟩ := hq
          refine bw_callV (As := []) (rest := []) C hW ci_Mo_thrown m_844 m_845 m_846 d_La_law_827 ea320 t329 (by decide) rfl rfl rfl hl.1 (by decide) ⟨Nat.le_of_ble_eq_true rfl, Nat.le_of_ble_eq_true rfl⟩ ⟨Nat.le_trans (Nat.add_le_add_left (Nat.zero_le _) _) hc, Nat.le_trans (Nat.add_le_add_left (Nat.zero_le _) _) hs⟩ (c_Mo_thrown hl0 _ _ hq) (fun _ _ _ _ _ _ h => h.elim) (fun v330 w331 H locs hv hW => ?_)
          obtain ⟨i336, rfl, hq⟩ := hv
          have hc := bw_bud0 hc
          have hs := bw_bud0 hs
          refine W.eq (g2 := F0 m 830 ls [.int i336]) rfl ?_
          refine lv_iload hx hb d_La_law_830 (lv_at hl 0 rfl) ?_
          refine lv_icmp_eq (tgt := 837) hx hb d_La_law_832 (by decide) (fun c337 => ?_) (fun c337 => ?_)
          · have hq := hq.1 c337
            refine lv_goto (tgt := 1225) hx hb d_La_law_837 (by decide) ?_
            exact k_La_law_1225 C hX hbl hK23 _ _ _ _ _ _ _ hq _ _ _ _ _ hW (lv_sub hl [1, 2, 3, 4, 5] rfl) hc hs
          · have hq := hq.2 c337
            refine lv_iconst (v := 0) hx hb d_La_law_835 (by decide) ?_
            exact hq.elim
        · have hq := hq.2.2.2.2.2.2.2.2.2.2.2.1 c3
          refine lv_tableIn (tgt := 840) hx hb d_La_law_39 (by rw [c3]; decide) (by rw [c3]; decide) (by rw [c3]; rfl) (by decide) ?_
          refine bw_aload_n hx hb d_La_law_840 rfl (lv_at hl 1 rfl) ?_
          refine bw_aload_n hx hb d_La_law_841 rfl (lv_at hl 0 rfl) ?_
          refine lv_iload hx hb d_La_law_842 (lv_at hl 4 rfl) ?_
          refine lv_iconst (v := 1) hx hb d_La_law_844 (by decide) ?_
          refine lv_iadd hx hb d_La_law_845 ?_
          obtain ⟨h338, hq⟩ := hq
          refine va_sld hx hb hX hbl hbA hW.2.2 h338 d_La_law_846 ?_
          refine bw_aload_n hx hb d_La_law_847 rfl (lv_at hl 3 rfl) ?_
          obtain ⟨k341, k342, h343, h344, hq⟩ := hq
          refine bw_callSW (nA := 3) (hh := [(0, 9, 12, 21), (0, 9, 15, 41)]) (As := [va_rf x1, .int (xs (x4 + (1 : Int32)).toNatClampNeg), va_rf x3]) (rest := []) C hW m_672 m_0 m_670 m_671 (by decide) (by decide +kernel) d_La_law_848 rfl rfl hl.1 (by decide) ⟨Nat.le_of_ble_eq_true rfl, Nat.le_of_ble_eq_true rfl⟩ ⟨Nat.le_trans (Nat.add_le_add_left h343 _) hc, Nat.le_trans (Nat.add_le_add_left h344 _) hs⟩ (c_La_clean hl0 _ _ _ _ _ _ hq) (fun v339 w340 H locs hv hW => ?_)
          obtain ⟨i345, rfl, hq⟩ := hv
          have hc := bw_bud hc h343
          have hs := bw_bud hs h344
          refine W.eq (g2 := F0 m 851 ls [.int i345]) rfl ?_
          refine lv_istore (lv' := [(5, .int i345), (0, va_rf (some x0)), (1, va_rf x1), (2, va_rf x2), (3, va_rf x3), (4, .int x4)]) hx hb d_La_law_851 hl (by decide) (by simp [bw_cat, cat_i, cat_j]) (fun ls hl => ?_)
          refine bw_aload_n hx hb d_La_law_853 rfl (lv_at hl 3 rfl) ?_
          refine bw_aload_n hx hb d_La_law_854 rfl (lv_at hl 1 rfl) ?_
          refine lv_iload hx hb d_La_law_855 (lv_at hl 5 rfl) ?_
          refine lv_iconst (v := 1) hx hb d_La_law_857 (by decide) ?_
          refine lv_iadd hx hb d_La_law_858 ?_
          obtain ⟨h346, hq⟩ := hq
          refine va_sld hx hb hX hbl hbA hW.2.2 h346 d_La_law_859 ?_
          obtain ⟨a347, ea347, hq⟩ := hq
          obtain ⟨t348, hq⟩ := hq
          refine bw_callV (As := [.int (xs (x4 + (1 : Int32)).toNatClampNeg)]) (rest := []) C hW ci_Mo_clean m_953 m_954 m_955 d_La_law_860 ea347 t348 (by decide) rfl rfl rfl hl.1 (by decide) ⟨Nat.le_of_ble_eq_true rfl, Nat.le_of_ble_eq_true rfl⟩ ⟨Nat.le_trans (Nat.add_le_add_left (Nat.zero_le _) _) hc, Nat.le_trans (Nat.add_le_add_left (Nat.zero_le _) _) hs⟩ (c_Mo_clean hl0 _ _ _ hq) (fun _ _ _ _ _ _ h => h.elim) (fun v349 w350 H locs hv hW => ?_)
          obtain ⟨i355, rfl, hq⟩ := hv
          have hc := bw_bud0 hc
          have hs := bw_bud0 hs
          refine W.eq (g2 := F0 m 863 ls [.int i355]) rfl ?_
          refine lv_istore (lv' := [(6, .int i355), (5, .int i345), (0, va_rf (some x0)), (1, va_rf x1), (2, va_rf x2), (3, va_rf x3), (4, .int x4)]) hx hb d_La_law_863 hl (by decide) (by simp [bw_cat, cat_i, cat_j]) (fun ls hl => ?_)
          refine bw_aload_n hx hb d_La_law_865 rfl (lv_at hl 4 rfl) ?_
          obtain ⟨t356, hq⟩ := hq
          refine bw_callV (As := []) (rest := []) C hW ci_Mo_thrown m_844 m_845 m_846 d_La_law_866 ea347 t356 (by decide) rfl rfl rfl hl.1 (by decide) ⟨Nat.le_of_ble_eq_true rfl, Nat.le_of_ble_eq_true rfl⟩ ⟨Nat.le_trans (Nat.add_le_add_left (Nat.zero_le _) _) hc, Nat.le_trans (Nat.add_le_add_left (Nat.zero_le _) _) hs⟩ (c_Mo_thrown hl0 _ _ hq) (fun _ _ _ _ _ _ h => h.elim) (fun v357 w358 H locs hv hW => ?_)
          obtain ⟨i363, rfl, hq⟩ := hv
          have hc := bw_bud0 hc
          have hs := bw_bud0 hs
          refine W.eq (g2 := F0 m 869 ls [.int i363]) rfl ?_
          refine lv_iload hx hb d_La_law_869 (lv_at hl 1 rfl) ?_
          refine lv_icmp_eq (tgt := 876) hx hb d_La_law_871 (by decide) (fun c364 => ?_) (fun c364 => ?_)
          · have hq := hq.1 c364
            refine lv_iload hx hb d_La_law_876 (lv_at hl 1 rfl) ?_
            refine lv_if_ne (tgt := 893) hx hb d_La_law_878 (by decide) (fun c365 => ?_) (fun c365 => ?_)
            · have hq := hq.1 c365
              exact k_La_law_893 C hX hbl hK23 _ _ _ _ _ _ _ _ _ hq _ _ _ _ _ hW (lv_sub hl [2, 3, 4, 5, 6, 1, 0] rfl) hc hs
            · have hq := hq.2 c365
              refine bw_aload_n hx hb d_La_law_881 rfl (lv_at hl 5 rfl) ?_
              refine lv_iconst (v := 0) hx hb d_La_law_882 (by decide) ?_
              obtain ⟨a366, ea366, hq⟩ := hq
              obtain ⟨t367, hq⟩ := hq
              obtain ⟨h368, hq⟩ := hq
              refine bw_lald C hW ea366 t367 h368 d_La_law_883 ?_
              refine lv_iload hx hb d_La_law_884 (lv_at hl 0 rfl) ?_
              refine lv_i2l hx hb d_La_law_886 rfl ?_
              refine W.lcmp hx hb d_La_law_887 ?_
              refine lv_if_eq (tgt := 893) hx hb d_La_law_888 (by decide) (fun c369 => ?_) (fun c369 => ?_)
              · have hq := hq.1 c369
                exact k_La_law_893 C hX hbl hK23 _ _ _ _ _ _ _ _ _ hq _ _ _ _ _ hW (lv_sub hl [2, 3, 4, 5, 6, 1, 0] rfl) hc hs
              · have hq := hq.2 c369
                refine lv_iconst (v := 0) hx hb d_La_law_891 (by decide) ?_
                exact hq.elim
          · have hq := hq.2 c364
            refine lv_iconst (v := 0) hx hb d_La_law_874 (by decide) ?_
            exact hq.elim
        · have hq := hq.2.2.2.2.2.2.2.2.2.2.2.2.1 c3
          refine lv_tableIn (tgt := 896) hx hb d_La_law_39 (by rw [c3]; decide) (by rw [c3]; decide) (by rw [c3]; rfl) (by decide) ?_
          refine bw_aload_n hx hb d_La_law_896 rfl (lv_at hl 1 rfl) ?_
          refine bw_aload_n hx hb d_La_law_897 rfl (lv_at hl 0 rfl) ?_
          refine lv_iload hx hb d_La_law_898 (lv_at hl 4 rfl) ?_
          refine lv_iconst (v := 1) hx hb d_La_law_900 (by decide) ?_
          refine lv_iadd hx hb d_La_law_901 ?_
          obtain ⟨h370, hq⟩ := hq
          refine va_sld hx hb hX hbl hbA hW.2.2 h370 d_La_law_902 ?_
          refine bw_aload_n hx hb d_La_law_903 rfl (lv_at hl 0 rfl) ?_
          refine lv_iload hx hb d_La_law_904 (lv_at hl 4 rfl) ?_
          refine lv_iconst (v := 2) hx hb d_La_law_906 (by decide) ?_
          refine lv_iadd hx hb d_La_law_907 ?_
          obtain ⟨h371, hq⟩ := hq
          refine va_sld hx hb hX hbl hbA hW.2.2 h371 d_La_law_908 ?_
          refine bw_aload_n hx hb d_La_law_909 rfl (lv_at hl 3 rfl) ?_
          obtain ⟨k374, k375, h376, h377, hq⟩ := hq
          refine bw_callSW (nA := 4) (hh := [(0, 10, 13, 21), (0, 10, 17, 41)]) (As := [va_rf x1, .int (xs (x4 + (1 : Int32)).toNatClampNeg), .int (xs (x4 + (2 : Int32)).toNatClampNeg), va_rf x3]) (rest := []) C hW m_680 m_0 m_678 m_679 (by decide) (by decide +kernel) d_La_law_910 rfl rfl hl.1 (by decide) ⟨Nat.le_of_ble_eq_true rfl, Nat.le_of_ble_eq_true rfl⟩ ⟨Nat.le_trans (Nat.add_le_add_left h376 _) hc, Nat.le_trans (Nat.add_le_add_left h377 _) hs⟩ (c_La_gap hl0 _ _ _ _ _ _ _ hq) (fun v372 w373 H locs hv hW => ?_)
          obtain ⟨i378, rfl, hq⟩ := hv
          have hc := bw_bud hc h376
          have hs := bw_bud hs h377
          refine W.eq (g2 := F0 m 913 ls [.int i378]) rfl ?_
          refine lv_istore (lv' := [(5, .int i378), (0, va_rf (some x0)), (1, va_rf x1), (2, va_rf x2), (3, va_rf x3), (4, .int x4)]) hx hb d_La_law_913 hl (by decide) (by simp [bw_cat, cat_i, cat_j]) (fun ls hl => ?_)
          refine bw_aload_n hx hb d_La_law_915 rfl (lv_at hl 3 rfl) ?_
          refine bw_aload_n hx hb d_La_law_916 rfl (lv_at hl 1 rfl) ?_
          refine lv_iload hx hb d_La_law_917 (lv_at hl 5 rfl) ?_
          refine lv_iconst (v := 1) hx hb d_La_law_919 (by decide) ?_
          refine lv_iadd hx hb d_La_law_920 ?_
          obtain ⟨h379, hq⟩ := hq
          refine va_sld hx hb hX hbl hbA hW.2.2 h379 d_La_law_921 ?_
          refine bw_aload_n hx hb d_La_law_922 rfl (lv_at hl 1 rfl) ?_
          refine lv_iload hx hb d_La_law_923 (lv_at hl 5 rfl) ?_
          refine lv_iconst (v := 2) hx hb d_La_law_925 (by decide) ?_
          refine lv_iadd hx hb d_La_law_926 ?_
          obtain ⟨h380, hq⟩ := hq
          refine va_sld hx hb hX hbl hbA hW.2.2 h380 d_La_law_927 ?_
          obtain ⟨a381, ea381, hq⟩ := hq
          obtain ⟨t382, hq⟩ := hq
          refine bw_callV (As := [.int (xs (x4 + (1 : Int32)).toNatClampNeg), .int (xs (x4 + (2 : Int32)).toNatClampNeg)]) (rest := []) C hW ci_Mo_gap m_957 m_958 m_959 d_La_law_928 ea381 t382 (by decide) rfl rfl rfl hl.1 (by decide) ⟨Nat.le_of_ble_eq_true rfl, Nat.le_of_ble_eq_true rfl⟩ ⟨Nat.le_trans (Nat.add_le_add_left (Nat.zero_le _) _) hc, Nat.le_trans (Nat.add_le_add_left (Nat.zero_le _) _) hs⟩ (c_Mo_gap hl0 _ _ _ _ hq) (fun _ _ _ _ _ _ h => h.elim) (fun v383 w384 H locs hv hW => ?_)
          obtain ⟨i389, rfl, hq⟩ := hv
          have hc := bw_bud0 hc
          have hs := bw_bud0 hs
          refine W.eq (g2 := F0 m 931 ls [.int i389]) rfl ?_
          refine lv_istore (lv' := [(6, .int i389), (5, .int i378), (0, va_rf (some x0)), (1, va_rf x1), (2, va_rf x2), (3, va_rf x3), (4, .int x4)]) hx hb d_La_law_931 hl (by decide) (by simp [bw_cat, cat_i, cat_j]) (fun ls hl => ?_)
          refine bw_aload_n hx hb d_La_law_933 rfl (lv_at hl 4 rfl) ?_
          obtain ⟨t390, hq⟩ := hq
          refine bw_callV (As := []) (rest := []) C hW ci_Mo_thrown m_844 m_845 m_846 d_La_law_934 ea381 t390 (by decide) rfl rfl rfl hl.1 (by decide) ⟨Nat.le_of_ble_eq_true rfl, Nat.le_of_ble_eq_true rfl⟩ ⟨Nat.le_trans (Nat.add_le_add_left (Nat.zero_le _) _) hc, Nat.le_trans (Nat.add_le_add_left (Nat.zero_le _) _) hs⟩ (c_Mo_thrown hl0 _ _ hq) (fun _ _ _ _ _ _ h => h.elim) (fun v391 w392 H locs hv hW => ?_)
          obtain ⟨i397, rfl, hq⟩ := hv
          have hc := bw_bud0 hc
          have hs := bw_bud0 hs
          refine W.eq (g2 := F0 m 937 ls [.int i397]) rfl ?_
          refine lv_iload hx hb d_La_law_937 (lv_at hl 1 rfl) ?_
          refine lv_icmp_eq (tgt := 944) hx hb d_La_law_939 (by decide) (fun c398 => ?_) (fun c398 => ?_)
          · have hq := hq.1 c398
            refine lv_iload hx hb d_La_law_944 (lv_at hl 1 rfl) ?_
            refine lv_if_ne (tgt := 961) hx hb d_La_law_946 (by decide) (fun c399 => ?_) (fun c399 => ?_)
            · have hq := hq.1 c399
              exact k_La_law_961 C hX hbl hK23 _ _ _ _ _ _ _ _ _ hq _ _ _ _ _ hW (lv_sub hl [2, 3, 4, 5, 6, 1, 0] rfl) hc hs
            · have hq := hq.2 c399
              refine bw_aload_n hx hb d_La_law_949 rfl (lv_at hl 5 rfl) ?_
              refine lv_iconst (v := 0) hx hb d_La_law_950 (by decide) ?_
              obtain ⟨a400, ea400, hq⟩ := hq
              obtain ⟨t401, hq⟩ := hq
              obtain ⟨h402, hq⟩ := hq
              refine bw_lald C hW ea400 t401 h402 d_La_law_951 ?_
              refine lv_iload hx hb d_La_law_952 (lv_at hl 0 rfl) ?_
              refine lv_i2l hx hb d_La_law_954 rfl ?_
              refine W.lcmp hx hb d_La_law_955 ?_
              refine lv_if_eq (tgt := 961) hx hb d_La_law_956 (by decide) (fun c403 => ?_) (fun c403 => ?_)
              · have hq := hq.1 c403
                exact k_La_law_961 C hX hbl hK23 _ _ _ _ _ _ _ _ _ hq _ _ _ _ _ hW (lv_sub hl [2, 3, 4, 5, 6, 1, 0] rfl) hc hs
              · have hq := hq.2 c403
                refine lv_iconst (v := 0) hx hb d_La_law_959 (by decide) ?_
                exact hq.elim
          · have hq := hq.2 c398
            refine lv_iconst (v := 0) hx hb d_La_law_942 (by decide) ?_
            exact hq.elim
        · have hq := hq.2.2.2.2.2.2.2.2.2.2.2.2.2.1 c3
          refine lv_tableIn (tgt := 964) hx hb d_La_law_39 (by rw [c3]; decide) (by rw [c3]; decide) (by rw [c3]; rfl) (by decide) ?_
          refine bw_aload_n hx hb d_La_law_964 rfl (lv_at hl 1 rfl) ?_
          refine bw_aload_n hx hb d_La_law_965 rfl (lv_at hl 0 rfl) ?_
          refine lv_iload hx hb d_La_law_966 (lv_at hl 4 rfl) ?_
          refine lv_iconst (v := 1) hx hb d_La_law_968 (by decide) ?_
          refine lv_iadd hx hb d_La_law_969 ?_
          obtain ⟨h404, hq⟩ := hq
          refine va_sld hx hb hX hbl hbA hW.2.2 h404 d_La_law_970 ?_
          refine bw_aload_n hx hb d_La_law_971 rfl (lv_at hl 0 rfl) ?_
          refine lv_iload hx hb d_La_law_972 (lv_at hl 4 rfl) ?_
          refine lv_iconst (v := 2) hx hb d_La_law_974 (by decide) ?_
          refine lv_iadd hx hb d_La_law_975 ?_
          obtain ⟨h405, hq⟩ := hq
          refine va_sld hx hb hX hbl hbA hW.2.2 h405 d_La_law_976 ?_
          refine bw_aload_n hx hb d_La_law_977 rfl (lv_at hl 3 rfl) ?_
          obtain ⟨k408, k409, h410, h411, hq⟩ := hq
          refine bw_callSW (nA := 4) (hh := [(0, 10, 13, 21), (0, 10, 17, 13)]) (As := [va_rf x1, .int (xs (x4 + (1 : Int32)).toNatClampNeg), .int (xs (x4 + (2 : Int32)).toNatClampNeg), va_rf x3]) (rest := []) C hW m_688 m_0 m_686 m_687 (by decide) (by decide +kernel) d_La_law_978 rfl rfl hl.1 (by decide) ⟨Nat.le_of_ble_eq_true rfl, Nat.le_of_ble_eq_true rfl⟩ ⟨Nat.le_trans (Nat.add_le_add_left h410 _) hc, Nat.le_trans (Nat.add_le_add_left h411 _) hs⟩ (c_La_told hl0 _ _ _ _ _ _ _ hq) (fun v406 w407 H locs hv hW => ?_)
          obtain ⟨i412, rfl, hq⟩ := hv
          have hc := bw_bud hc h410
          have hs := bw_bud hs h411
          refine W.eq (g2 := F0 m 981 ls [.int i412]) rfl ?_
          refine lv_istore (lv' := [(5, .int i412), (0, va_rf (some x0)), (1, va_rf x1), (2, va_rf x2), (3, va_rf x3), (4, .int x4)]) hx hb d_La_law_981 hl (by decide) (by simp [bw_cat, cat_i, cat_j]) (fun ls hl => ?_)
          refine bw_aload_n hx hb d_La_law_983 rfl (lv_at hl 3 rfl) ?_
          refine bw_aload_n hx hb d_La_law_984 rfl (lv_at hl 1 rfl) ?_
          refine lv_iload hx hb d_La_law_985 (lv_at hl 5 rfl) ?_
          refine lv_iconst (v := 1) hx hb d_La_law_987 (by decide) ?_
          refine lv_iadd hx hb d_La_law_988 ?_
          obtain ⟨h413, hq⟩ := hq
          refine va_sld hx hb hX hbl hbA hW.2.2 h413 d_La_law_989 ?_
          refine bw_aload_n hx hb d_La_law_990 rfl (lv_at hl 1 rfl) ?_
          refine lv_iload hx hb d_La_law_991 (lv_at hl 5 rfl) ?_
          refine lv_iconst (v := 2) hx hb d_La_law_993 (by decide) ?_
          refine lv_iadd hx hb d_La_law_994 ?_
          obtain ⟨h414, hq⟩ := hq
          refine va_sld hx hb hX hbl hbA hW.2.2 h414 d_La_law_995 ?_
          obtain ⟨a415, ea415, hq⟩ := hq
          obtain ⟨t416, hq⟩ := hq
          refine bw_callV (As := [.int (xs (x4 + (1 : Int32)).toNatClampNeg), .int (xs (x4 + (2 : Int32)).toNatClampNeg)]) (rest := []) C hW ci_Mo_told m_961 m_962 m_963 d_La_law_996 ea415 t416 (by decide) rfl rfl rfl hl.1 (by decide) ⟨Nat.le_of_ble_eq_true rfl, Nat.le_of_ble_eq_true rfl⟩ ⟨Nat.le_trans (Nat.add_le_add_left (Nat.zero_le _) _) hc, Nat.le_trans (Nat.add_le_add_left (Nat.zero_le _) _) hs⟩ (c_Mo_told hl0 _ _ _ _ hq) (fun _ _ _ _ _ _ h => h.elim) (fun v417 w418 H locs hv hW => ?_)
          obtain ⟨i423, rfl, hq⟩ := hv
          have hc := bw_bud0 hc
          have hs := bw_bud0 hs
          refine W.eq (g2 := F0 m 999 ls [.int i423]) rfl ?_
          refine lv_istore (lv' := [(6, .int i423), (5, .int i412), (0, va_rf (some x0)), (1, va_rf x1), (2, va_rf x2), (3, va_rf x3), (4, .int x4)]) hx hb d_La_law_999 hl (by decide) (by simp [bw_cat, cat_i, cat_j]) (fun ls hl => ?_)
          refine bw_aload_n hx hb d_La_law_1001 rfl (lv_at hl 4 rfl) ?_
          obtain ⟨t424, hq⟩ := hq
          refine bw_callV (As := []) (rest := []) C hW ci_Mo_thrown m_844 m_845 m_846 d_La_law_1002 ea415 t424 (by decide) rfl rfl rfl hl.1 (by decide) ⟨Nat.le_of_ble_eq_true rfl, Nat.le_of_ble_eq_true rfl⟩ ⟨Nat.le_trans (Nat.add_le_add_left (Nat.zero_le _) _) hc, Nat.le_trans (Nat.add_le_add_left (Nat.zero_le _) _) hs⟩ (c_Mo_thrown hl0 _ _ hq) (fun _ _ _ _ _ _ h => h.elim) (fun v425 w426 H locs hv hW => ?_)
          obtain ⟨i431, rfl, hq⟩ := hv
          have hc := bw_bud0 hc
          have hs := bw_bud0 hs
          refine W.eq (g2 := F0 m 1005 ls [.int i431]) rfl ?_
          refine lv_iload hx hb d_La_law_1005 (lv_at hl 1 rfl) ?_
          refine lv_icmp_eq (tgt := 1012) hx hb d_La_law_1007 (by decide) (fun c432 => ?_) (fun c432 => ?_)
          · have hq := hq.1 c432
            refine lv_iload hx hb d_La_law_1012 (lv_at hl 1 rfl) ?_
            refine lv_if_ne (tgt := 1029) hx hb d_La_law_1014 (by decide) (fun c433 => ?_) (fun c433 => ?_)
            · have hq := hq.1 c433
              exact k_La_law_1029 C hX hbl hK23 _ _ _ _ _ _ _ _ _ hq _ _ _ _ _ hW (lv_sub hl [2, 3, 4, 5, 6, 1, 0] rfl) hc hs
            · have hq := hq.2 c433
              refine bw_aload_n hx hb d_La_law_1017 rfl (lv_at hl 5 rfl) ?_
              refine lv_iconst (v := 0) hx hb d_La_law_1018 (by decide) ?_
              obtain ⟨a434, ea434, hq⟩ := hq
              obtain ⟨t435, hq⟩ := hq
              obtain ⟨h436, hq⟩ := hq
              refine bw_lald C hW ea434 t435 h436 d_La_law_1019 ?_
              refine lv_iload hx hb d_La_law_1020 (lv_at hl 0 rfl) ?_
              refine lv_i2l hx hb d_La_law_1022 rfl ?_
              refine W.lcmp hx hb d_La_law_1023 ?_
              refine lv_if_eq (tgt := 1029) hx hb d_La_law_1024 (by decide) (fun c437 => ?_) (fun c437 => ?_)
              · have hq := hq.1 c437
                exact k_La_law_1029 C hX hbl hK23 _ _ _ _ _ _ _ _ _ hq _ _ _ _ _ hW (lv_sub hl [2, 3, 4, 5, 6, 1, 0] rfl) hc hs
              · have hq := hq.2 c437
                refine lv_iconst (v := 0) hx hb d_La_law_1027 (by decide) ?_
                exact hq.elim
          · have hq := hq.2 c432
            refine lv_iconst (v := 0) hx hb d_La_law_1010 (by decide) ?_
            exact hq.elim
        · have hq := hq.2.2.2.2.2.2.2.2.2.2.2.2.2.2.1 c3
          refine lv_tableIn (tgt := 1032) hx hb d_La_law_39 (by rw [c3]; decide) (by rw [c3]; decide) (by rw [c3]; rfl) (by decide) ?_
          refine bw_aload_n hx hb d_La_law_1032 rfl (lv_at hl 1 rfl) ?_
          refine bw_aload_n hx hb d_La_law_1033 rfl (lv_at hl 0 rfl) ?_
          refine lv_iload hx hb d_La_law_1034 (lv_at hl 4 rfl) ?_
          refine lv_iconst (v := 1) hx hb d_La_law_1036 (by decide) ?_
          refine lv_iadd hx hb d_La_law_1037 ?_
          obtain ⟨h438, hq⟩ := hq
          refine va_sld hx hb hX hbl hbA hW.2.2 h438 d_La_law_1038 ?_
          refine bw_aload_n hx hb d_La_law_1039 rfl (lv_at hl 0 rfl) ?_
          refine lv_iload hx hb d_La_law_1040 (lv_at hl 4 rfl) ?_
          refine lv_iconst (v := 2) hx hb d_La_law_1042 (by decide) ?_
          refine lv_iadd hx hb d_La_law_1043 ?_
          obtain ⟨h439, hq⟩ := hq
          refine va_sld hx hb hX hbl hbA hW.2.2 h439 d_La_law_1044 ?_
          refine bw_aload_n hx hb d_La_law_1045 rfl (lv_at hl 3 rfl) ?_
          obtain ⟨k442, k443, h444, h445, hq⟩ := hq
          refine bw_callSW (nA := 4) (hh := [(0, 10, 13, 21), (0, 10, 17, 13)]) (As := [va_rf x1, .int (xs (x4 + (1 : Int32)).toNatClampNeg), .int (xs (x4 + (2 : Int32)).toNatClampNeg), va_rf x3]) (rest := []) C hW m_696 m_0 m_694 m_695 (by decide) (by decide +kernel) d_La_law_1046 rfl rfl hl.1 (by decide) ⟨Nat.le_of_ble_eq_true rfl, Nat.le_of_ble_eq_true rfl⟩ ⟨Nat.le_trans (Nat.add_le_add_left h444 _) hc, Nat.le_trans (Nat.add_le_add_left h445 _) hs⟩ (c_La_known hl0 _ _ _ _ _ _ _ hq) (fun v440 w441 H locs hv hW => ?_)
          obtain ⟨i446, rfl, hq⟩ := hv
          have hc := bw_bud hc h444
          have hs := bw_bud hs h445
          refine W.eq (g2 := F0 m 1049 ls [.int i446]) rfl ?_
          refine lv_istore (lv' := [(5, .int i446), (0, va_rf (some x0)), (1, va_rf x1), (2, va_rf x2), (3, va_rf x3), (4, .int x4)]) hx hb d_La_law_1049 hl (by decide) (by simp [bw_cat, cat_i, cat_j]) (fun ls hl => ?_)
          refine bw_aload_n hx hb d_La_law_1051 rfl (lv_at hl 3 rfl) ?_
          refine bw_aload_n hx hb d_La_law_1052 rfl (lv_at hl 1 rfl) ?_
          refine lv_iload hx hb d_La_law_1053 (lv_at hl 5 rfl) ?_
          refine lv_iconst (v := 1) hx hb d_La_law_1055 (by decide) ?_
          refine lv_iadd hx hb d_La_law_1056 ?_
          obtain ⟨h447, hq⟩ := hq
          refine va_sld hx hb hX hbl hbA hW.2.2 h447 d_La_law_1057 ?_
          refine bw_aload_n hx hb d_La_law_1058 rfl (lv_at hl 1 rfl) ?_
          refine lv_iload hx hb d_La_law_1059 (lv_at hl 5 rfl) ?_
          refine lv_iconst (v := 2) hx hb d_La_law_1061 (by decide) ?_
          refine lv_iadd hx hb d_La_law_1062 ?_
          obtain ⟨h448, hq⟩ := hq
          refine va_sld hx hb hX hbl hbA hW.2.2 h448 d_La_law_1063 ?_
          obtain ⟨a449, ea449, hq⟩ := hq
          obtain ⟨t450, hq⟩ := hq
          refine bw_callV (As := [.int (xs (x4 + (1 : Int32)).toNatClampNeg), .int (xs (x4 + (2 : Int32)).toNatClampNeg)]) (rest := []) C hW ci_Mo_known m_965 m_966 m_967 d_La_law_1064 ea449 t450 (by decide) rfl rfl rfl hl.1 (by decide) ⟨Nat.le_of_ble_eq_true rfl, Nat.le_of_ble_eq_true rfl⟩ ⟨Nat.le_trans (Nat.add_le_add_left (Nat.zero_le _) _) hc, Nat.le_trans (Nat.add_le_add_left (Nat.zero_le _) _) hs⟩ (c_Mo_known hl0 _ _ _ _ hq) (fun _ _ _ _ _ _ h => h.elim) (fun v451 w452 H locs hv hW => ?_)
          obtain ⟨i457, rfl, hq⟩ := hv
          have hc := bw_bud0 hc
          have hs := bw_bud0 hs
          refine W.eq (g2 := F0 m 1067 ls [.int i457]) rfl ?_
          refine lv_istore (lv' := [(6, .int i457), (5, .int i446), (0, va_rf (some x0)), (1, va_rf x1), (2, va_rf x2), (3, va_rf x3), (4, .int x4)]) hx hb d_La_law_1067 hl (by decide) (by simp [bw_cat, cat_i, cat_j]) (fun ls hl => ?_)
          refine bw_aload_n hx hb d_La_law_1069 rfl (lv_at hl 4 rfl) ?_
          obtain ⟨t458, hq⟩ := hq
          refine bw_callV (As := []) (rest := []) C hW ci_Mo_thrown m_844 m_845 m_846 d_La_law_1070 ea449 t458 (by decide) rfl rfl rfl hl.1 (by decide) ⟨Nat.le_of_ble_eq_true rfl, Nat.le_of_ble_eq_true rfl⟩ ⟨Nat.le_trans (Nat.add_le_add_left (Nat.zero_le _) _) hc, Nat.le_trans (Nat.add_le_add_left (Nat.zero_le _) _) hs⟩ (c_Mo_thrown hl0 _ _ hq) (fun _ _ _ _ _ _ h => h.elim) (fun v459 w460 H locs hv hW => ?_)
          obtain ⟨i465, rfl, hq⟩ := hv
          have hc := bw_bud0 hc
          have hs := bw_bud0 hs
          refine W.eq (g2 := F0 m 1073 ls [.int i465]) rfl ?_
          refine lv_iload hx hb d_La_law_1073 (lv_at hl 1 rfl) ?_
          refine lv_icmp_eq (tgt := 1080) hx hb d_La_law_1075 (by decide) (fun c466 => ?_) (fun c466 => ?_)
          · have hq := hq.1 c466
            refine lv_iload hx hb d_La_law_1080 (lv_at hl 1 rfl) ?_
            refine lv_if_ne (tgt := 1097) hx hb d_La_law_1082 (by decide) (fun c467 => ?_) (fun c467 => ?_)
            · have hq := hq.1 c467
              exact k_La_law_1097 C hX hbl hK23 _ _ _ _ _ _ _ _ _ hq _ _ _ _ _ hW (lv_sub hl [2, 3, 4, 5, 6, 1, 0] rfl) hc hs
            · have hq := hq.2 c467
              refine bw_aload_n hx hb d_La_law_1085 rfl (lv_at hl 5 rfl) ?_
              refine lv_iconst (v := 0) hx hb d_La_law_1086 (by decide) ?_
              obtain ⟨a468, ea468, hq⟩ := hq
              obtain ⟨t469, hq⟩ := hq
              obtain ⟨h470, hq⟩ := hq
              refine bw_lald C hW ea468 t469 h470 d_La_law_1087 ?_
              refine lv_iload hx hb d_La_law_1088 (lv_at hl 0 rfl) ?_
              refine lv_i2l hx hb d_La_law_1090 rfl ?_
              refine W.lcmp hx hb d_La_law_1091 ?_
              refine lv_if_eq (tgt := 1097) hx hb d_La_law_1092 (by decide) (fun c471 => ?_) (fun c471 => ?_)
              · have hq := hq.1 c471
                exact k_La_law_1097 C hX hbl hK23 _ _ _ _ _ _ _ _ _ hq _ _ _ _ _ hW (lv_sub hl [2, 3, 4, 5, 6, 1, 0] rfl) hc hs
              · have hq := hq.2 c471
                refine lv_iconst (v := 0) hx hb d_La_law_1095 (by decide) ?_
                exact hq.elim
          · have hq := hq.2 c466
            refine lv_iconst (v := 0) hx hb d_La_law_1078 (by decide) ?_
            exact hq.elim
        · have hq := hq.2.2.2.2.2.2.2.2.2.2.2.2.2.2.2.1 c3
          refine lv_tableIn (tgt := 1100) hx hb d_La_law_39 (by rw [c3]; decide) (by rw [c3]; decide) (by rw [c3]; rfl) (by decide) ?_
          refine bw_aload_n hx hb d_La_law_1100 rfl (lv_at hl 1 rfl) ?_
          refine bw_aload_n hx hb d_La_law_1101 rfl (lv_at hl 0 rfl) ?_
          refine lv_iload hx hb d_La_law_1102 (lv_at hl 4 rfl) ?_
          refine lv_iconst (v := 1) hx hb d_La_law_1104 (by decide) ?_
          refine lv_iadd hx hb d_La_law_1105 ?_
          obtain ⟨h472, hq⟩ := hq
          refine va_sld hx hb hX hbl hbA hW.2.2 h472 d_La_law_1106 ?_
          refine bw_aload_n hx hb d_La_law_1107 rfl (lv_at hl 3 rfl) ?_
          obtain ⟨k475, k476, h477, h478, hq⟩ := hq
          refine bw_callSW (nA := 3) (hh := [(0, 9, 12, 21)]) (As := [va_rf x1, .int (xs (x4 + (1 : Int32)).toNatClampNeg), va_rf x3]) (rest := []) C hW m_708 m_0 m_706 m_707 (by decide) (by decide +kernel) d_La_law_1108 rfl rfl hl.1 (by decide) ⟨Nat.le_of_ble_eq_true rfl, Nat.le_of_ble_eq_true rfl⟩ ⟨Nat.le_trans (Nat.add_le_add_left h477 _) hc, Nat.le_trans (Nat.add_le_add_left h478 _) hs⟩ (c_La_order hl0 _ _ _ _ _ _ hq) (fun v473 w474 H locs hv hW => ?_)
          obtain ⟨i479, rfl, hq⟩ := hv
          have hc := bw_bud hc h477
          have hs := bw_bud hs h478
          refine W.eq (g2 := F0 m 1111 ls [.int i479]) rfl ?_
          refine lv_istore (lv' := [(5, .int i479), (0, va_rf (some x0)), (1, va_rf x1), (2, va_rf x2), (3, va_rf x3), (4, .int x4)]) hx hb d_La_law_1111 hl (by decide) (by simp [bw_cat, cat_i, cat_j]) (fun ls hl => ?_)
          refine bw_aload_n hx hb d_La_law_1113 rfl (lv_at hl 3 rfl) ?_
          refine bw_aload_n hx hb d_La_law_1114 rfl (lv_at hl 1 rfl) ?_
          refine lv_iload hx hb d_La_law_1115 (lv_at hl 5 rfl) ?_
          refine lv_iconst (v := 1) hx hb d_La_law_1117 (by decide) ?_
          refine lv_iadd hx hb d_La_law_1118 ?_
          obtain ⟨h480, hq⟩ := hq
          refine va_sld hx hb hX hbl hbA hW.2.2 h480 d_La_law_1119 ?_
          obtain ⟨a481, ea481, hq⟩ := hq
          obtain ⟨t482, hq⟩ := hq
          refine bw_callV (As := [.int (xs (x4 + (1 : Int32)).toNatClampNeg)]) (rest := []) C hW ci_Mo_order m_969 m_970 m_971 d_La_law_1120 ea481 t482 (by decide) rfl rfl rfl hl.1 (by decide) ⟨Nat.le_of_ble_eq_true rfl, Nat.le_of_ble_eq_true rfl⟩ ⟨Nat.le_trans (Nat.add_le_add_left (Nat.zero_le _) _) hc, Nat.le_trans (Nat.add_le_add_left (Nat.zero_le _) _) hs⟩ (c_Mo_order hl0 _ _ _ hq) (fun _ _ _ _ _ _ h => h.elim) (fun v483 w484 H locs hv hW => ?_)
          obtain ⟨i489, rfl, hq⟩ := hv
          have hc := bw_bud0 hc
          have hs := bw_bud0 hs
          refine W.eq (g2 := F0 m 1123 ls [.int i489]) rfl ?_
          refine lv_istore (lv' := [(6, .int i489), (5, .int i479), (0, va_rf (some x0)), (1, va_rf x1), (2, va_rf x2), (3, va_rf x3), (4, .int x4)]) hx hb d_La_law_1123 hl (by decide) (by simp [bw_cat, cat_i, cat_j]) (fun ls hl => ?_)
          refine bw_aload_n hx hb d_La_law_1125 rfl (lv_at hl 4 rfl) ?_
          obtain ⟨t490, hq⟩ := hq
          refine bw_callV (As := []) (rest := []) C hW ci_Mo_thrown m_844 m_845 m_846 d_La_law_1126 ea481 t490 (by decide) rfl rfl rfl hl.1 (by decide) ⟨Nat.le_of_ble_eq_true rfl, Nat.le_of_ble_eq_true rfl⟩ ⟨Nat.le_trans (Nat.add_le_add_left (Nat.zero_le _) _) hc, Nat.le_trans (Nat.add_le_add_left (Nat.zero_le _) _) hs⟩ (c_Mo_thrown hl0 _ _ hq) (fun _ _ _ _ _ _ h => h.elim) (fun v491 w492 H locs hv hW => ?_)
          obtain ⟨i497, rfl, hq⟩ := hv
          have hc := bw_bud0 hc
          have hs := bw_bud0 hs
          refine W.eq (g2 := F0 m 1129 ls [.int i497]) rfl ?_
          refine lv_iload hx hb d_La_law_1129 (lv_at hl 1 rfl) ?_
          refine lv_icmp_eq (tgt := 1136) hx hb d_La_law_1131 (by decide) (fun c498 => ?_) (fun c498 => ?_)
          · have hq := hq.1 c498
            refine lv_iload hx hb d_La_law_1136 (lv_at hl 1 rfl) ?_
            refine lv_if_ne (tgt := 1153) hx hb d_La_law_1138 (by decide) (fun c499 => ?_) (fun c499 => ?_)
            · have hq := hq.1 c499
              exact k_La_law_1153 C hX hbl hK23 _ _ _ _ _ _ _ _ _ hq _ _ _ _ _ hW (lv_sub hl [2, 3, 4, 5, 6, 1, 0] rfl) hc hs
            · have hq := hq.2 c499
              refine bw_aload_n hx hb d_La_law_1141 rfl (lv_at hl 5 rfl) ?_
              refine lv_iconst (v := 0) hx hb d_La_law_1142 (by decide) ?_
              obtain ⟨a500, ea500, hq⟩ := hq
              obtain ⟨t501, hq⟩ := hq
              obtain ⟨h502, hq⟩ := hq
              refine bw_lald C hW ea500 t501 h502 d_La_law_1143 ?_
              refine lv_iload hx hb d_La_law_1144 (lv_at hl 0 rfl) ?_
              refine lv_i2l hx hb d_La_law_1146 rfl ?_
              refine W.lcmp hx hb d_La_law_1147 ?_
              refine lv_if_eq (tgt := 1153) hx hb d_La_law_1148 (by decide) (fun c503 => ?_) (fun c503 => ?_)
              · have hq := hq.1 c503
                exact k_La_law_1153 C hX hbl hK23 _ _ _ _ _ _ _ _ _ hq _ _ _ _ _ hW (lv_sub hl [2, 3, 4, 5, 6, 1, 0] rfl) hc hs
              · have hq := hq.2 c503
                refine lv_iconst (v := 0) hx hb d_La_law_1151 (by decide) ?_
                exact hq.elim
          · have hq := hq.2 c498
            refine lv_iconst (v := 0) hx hb d_La_law_1134 (by decide) ?_
            exact hq.elim
        · have hq := hq.2.2.2.2.2.2.2.2.2.2.2.2.2.2.2.2.1 c3
          refine lv_tableIn (tgt := 1156) hx hb d_La_law_39 (by rw [c3]; decide) (by rw [c3]; decide) (by rw [c3]; rfl) (by decide) ?_
          refine bw_aload_n hx hb d_La_law_1156 rfl (lv_at hl 1 rfl) ?_
          refine bw_aload_n hx hb d_La_law_1157 rfl (lv_at hl 3 rfl) ?_
          obtain ⟨k506, k507, h508, h509, hq⟩ := hq
          refine bw_callSW (nA := 2) (hh := [(0, 8, 11, 75)]) (As := [va_rf x1, va_rf x3]) (rest := []) C hW m_716 m_0 m_714 m_715 (by decide) (by decide +kernel) d_La_law_1158 rfl rfl hl.1 (by decide) ⟨Nat.le_of_ble_eq_true rfl, Nat.le_of_ble_eq_true rfl⟩ ⟨Nat.le_trans (Nat.add_le_add_left h508 _) hc, Nat.le_trans (Nat.add_le_add_left h509 _) hs⟩ (c_La_mean hl0 _ _ _ _ _ hq) (fun v504 w505 H locs hv hW => ?_)
          obtain ⟨i510, rfl, hq⟩ := hv
          have hc := bw_bud hc h508
          have hs := bw_bud hs h509
          refine W.eq (g2 := F0 m 1161 ls [.int i510]) rfl ?_
          refine lv_istore (lv' := [(5, .int i510), (0, va_rf (some x0)), (1, va_rf x1), (2, va_rf x2), (3, va_rf x3), (4, .int x4)]) hx hb d_La_law_1161 hl (by decide) (by simp [bw_cat, cat_i, cat_j]) (fun ls hl => ?_)
          refine bw_aload_n hx hb d_La_law_1163 rfl (lv_at hl 3 rfl) ?_
          obtain ⟨a511, ea511, hq⟩ := hq
          obtain ⟨t512, hq⟩ := hq
          refine bw_callV (As := []) (rest := []) C hW ci_Mo_mean m_973 m_974 m_975 d_La_law_1164 ea511 t512 (by decide) rfl rfl rfl hl.1 (by decide) ⟨Nat.le_of_ble_eq_true rfl, Nat.le_of_ble_eq_true rfl⟩ ⟨Nat.le_trans (Nat.add_le_add_left (Nat.zero_le _) _) hc, Nat.le_trans (Nat.add_le_add_left (Nat.zero_le _) _) hs⟩ (c_Mo_mean hl0 _ _ hq) (fun _ _ _ _ _ _ h => h.elim) (fun v513 w514 H locs hv hW => ?_)
          obtain ⟨i519, rfl, hq⟩ := hv
          have hc := bw_bud0 hc
          have hs := bw_bud0 hs
          refine W.eq (g2 := F0 m 1167 ls [.int i519]) rfl ?_
          refine lv_istore (lv' := [(6, .int i519), (5, .int i510), (0, va_rf (some x0)), (1, va_rf x1), (2, va_rf x2), (3, va_rf x3), (4, .int x4)]) hx hb d_La_law_1167 hl (by decide) (by simp [bw_cat, cat_i, cat_j]) (fun ls hl => ?_)
          refine bw_aload_n hx hb d_La_law_1169 rfl (lv_at hl 4 rfl) ?_
          obtain ⟨t520, hq⟩ := hq
          refine bw_callV (As := []) (rest := []) C hW ci_Mo_thrown m_844 m_845 m_846 d_La_law_1170 ea511 t520 (by decide) rfl rfl rfl hl.1 (by decide) ⟨Nat.le_of_ble_eq_true rfl, Nat.le_of_ble_eq_true rfl⟩ ⟨Nat.le_trans (Nat.add_le_add_left (Nat.zero_le _) _) hc, Nat.le_trans (Nat.add_le_add_left (Nat.zero_le _) _) hs⟩ (c_Mo_thrown hl0 _ _ hq) (fun _ _ _ _ _ _ h => h.elim) (fun v521 w522 H locs hv hW => ?_)
          obtain ⟨i527, rfl, hq⟩ := hv
          have hc := bw_bud0 hc
          have hs := bw_bud0 hs
          refine W.eq (g2 := F0 m 1173 ls [.int i527]) rfl ?_
          refine lv_iload hx hb d_La_law_1173 (lv_at hl 1 rfl) ?_
          refine lv_icmp_eq (tgt := 1180) hx hb d_La_law_1175 (by decide) (fun c528 => ?_) (fun c528 => ?_)
          · have hq := hq.1 c528
            refine lv_iload hx hb d_La_law_1180 (lv_at hl 1 rfl) ?_
            refine lv_if_ne (tgt := 1197) hx hb d_La_law_1182 (by decide) (fun c529 => ?_) (fun c529 => ?_)
            · have hq := hq.1 c529
              exact k_La_law_1197 C hX hbl hK23 _ _ _ _ _ _ _ _ _ hq _ _ _ _ _ hW (lv_sub hl [2, 3, 4, 5, 6, 1, 0] rfl) hc hs
            · have hq := hq.2 c529
              refine bw_aload_n hx hb d_La_law_1185 rfl (lv_at hl 5 rfl) ?_
              refine lv_iconst (v := 0) hx hb d_La_law_1186 (by decide) ?_
              obtain ⟨a530, ea530, hq⟩ := hq
              obtain ⟨t531, hq⟩ := hq
              obtain ⟨h532, hq⟩ := hq
              refine bw_lald C hW ea530 t531 h532 d_La_law_1187 ?_
              refine lv_iload hx hb d_La_law_1188 (lv_at hl 0 rfl) ?_
              refine lv_i2l hx hb d_La_law_1190 rfl ?_
              refine W.lcmp hx hb d_La_law_1191 ?_
              refine lv_if_eq (tgt := 1197) hx hb d_La_law_1192 (by decide) (fun c533 => ?_) (fun c533 => ?_)
              · have hq := hq.1 c533
                exact k_La_law_1197 C hX hbl hK23 _ _ _ _ _ _ _ _ _ hq _ _ _ _ _ hW (lv_sub hl [2, 3, 4, 5, 6, 1, 0] rfl) hc hs
              · have hq := hq.2 c533
                refine lv_iconst (v := 0) hx hb d_La_law_1195 (by decide) ?_
                exact hq.elim
          · have hq := hq.2 c528
            refine lv_iconst (v := 0) hx hb d_La_law_1178 (by decide) ?_
            exact hq.elim
        · have hq := hq.2.2.2.2.2.2.2.2.2.2.2.2.2.2.2.2.2.1 c3
          refine lv_tableIn (tgt := 1200) hx hb d_La_law_39 (by rw [c3]; decide) (by rw [c3]; decide) (by rw [c3]; rfl) (by decide) ?_
          refine bw_aload_n hx hb d_La_law_1200 rfl (lv_at hl 1 rfl) ?_
          refine bw_aload_n hx hb d_La_law_1201 rfl (lv_at hl 0 rfl) ?_
          refine lv_iload hx hb d_La_law_1202 (lv_at hl 4 rfl) ?_
          refine lv_iconst (v := 1) hx hb d_La_law_1204 (by decide) ?_
          refine lv_iadd hx hb d_La_law_1205 ?_
          obtain ⟨h534, hq⟩ := hq
          refine va_sld hx hb hX hbl hbA hW.2.2 h534 d_La_law_1206 ?_
          obtain ⟨a535, ea535, hq⟩ := hq
          obtain ⟨t536, hq⟩ := hq
          refine bw_callV (As := [.int (xs (x4 + (1 : Int32)).toNatClampNeg)]) (rest := []) C hW ci_Br_count m_87 m_88 m_89 d_La_law_1207 ea535 t536 (by decide) rfl rfl rfl hl.1 (by decide) ⟨Nat.le_of_ble_eq_true rfl, Nat.le_of_ble_eq_true rfl⟩ ⟨Nat.le_trans (Nat.add_le_add_left (Nat.zero_le _) _) hc, Nat.le_trans (Nat.add_le_add_left (Nat.zero_le _) _) hs⟩ (c_Br_count hl0 _ _ _ hq) (fun _ _ _ _ _ _ h => h.elim) (fun v537 w538 H locs hv hW => ?_)
          obtain ⟨i543, rfl, hq⟩ := hv
          have hc := bw_bud0 hc
          have hs := bw_bud0 hs
          refine W.eq (g2 := F0 m 1210 ls [.int i543]) rfl ?_
          refine bw_aload_n hx hb d_La_law_1210 rfl (lv_at hl 2 rfl) ?_
          refine bw_aload_n hx hb d_La_law_1211 rfl (lv_at hl 0 rfl) ?_
          refine lv_iload hx hb d_La_law_1212 (lv_at hl 4 rfl) ?_
          refine lv_iconst (v := 1) hx hb d_La_law_1214 (by decide) ?_
          refine lv_iadd hx hb d_La_law_1215 ?_
          obtain ⟨h544, hq⟩ := hq
          refine va_sld hx hb hX hbl hbA hW.2.2 h544 d_La_law_1216 ?_
          obtain ⟨a545, ea545, hq⟩ := hq
          obtain ⟨t546, hq⟩ := hq
          refine bw_callV (As := [.int (xs (x4 + (1 : Int32)).toNatClampNeg)]) (rest := [.int i543]) C hW ci_Mo_count m_977 m_978 m_979 d_La_law_1217 ea545 t546 (by decide) rfl rfl rfl hl.1 (by simp [bw_cat, cat_i, cat_j]) ⟨Nat.le_of_ble_eq_true rfl, Nat.le_of_ble_eq_true rfl⟩ ⟨Nat.le_trans (Nat.add_le_add_left (Nat.zero_le _) _) hc, Nat.le_trans (Nat.add_le_add_left (Nat.zero_le _) _) hs⟩ (c_Mo_count hl0 _ _ _ hq) (fun _ _ _ _ _ _ h => h.elim) (fun v547 w548 H locs hv hW => ?_)
          obtain ⟨i553, rfl, hq⟩ := hv
          have hc := bw_bud0 hc
          have hs := bw_bud0 hs
          refine W.eq (g2 := F0 m 1220 ls [.int i553, .int i543]) rfl ?_
          refine lv_icmp_eq (tgt := 1225) hx hb d_La_law_1220 (by decide) (fun c554 => ?_) (fun c554 => ?_)
          · have hq := hq.1 c554
            exact k_La_law_1225 C hX hbl hK23 _ _ _ _ _ _ _ hq _ _ _ _ _ hW (lv_sub hl [0, 1, 2, 3, 4] rfl) hc hs
          · have hq := hq.2 c554
            refine lv_iconst (v := 0) hx hb d_La_law_1223 (by decide) ?_
            exact hq.elim
def wp_La_law (e0 mi : Nat) (w : Wd) (nc ns : Nat) (L : Nat) (xs : Nat → Int32) : Prop :=
  1 ≤ nc ∧ 9 ≤ ns ∧ ∀ q1 : Nat, q1 ∉ wL w → ∀ w5 : Wd, w5 = bw_new w q1 5 0 → (∃ k9 k10 : Nat, k9 ≤ (nc - 1) ∧ k10 ≤ (ns - 9) ∧ wp_Br_init e0 mi q1 w5 k9 k10 (fun w8 => 1 ≤ ((nc - 1) - k9) ∧ 32 ≤ ((ns - 9) - k10) ∧ ∀ q14 : Nat, q14 ∉ wL w8 → ∀ w18 : Wd, w18 = bw_new w8 q14 6 0 → (∃ k22 k23 : Nat, k22 ≤ (((nc - 1) - k9) - 1) ∧ k23 ≤ (((ns - 9) - k10) - 32) ∧ wp_Mo_init e0 mi q14 w18 k22 k23 (fun w21 => ¬ (1 : Int32) < 0 ∧ (1 : Int32).toNatClampNeg * 8 ≤ 536870912 ∧ 1 ≤ ((((nc - 1) - k9) - 1) - k22) ∧ (1 : Int32).toNatClampNeg ≤ ((((ns - 9) - k10) - 32) - k23) ∧ ∀ q27 : Nat, q27 ∉ wL w21 → ∀ w33 : Wd, w33 = bw_new w21 q27 102 (1 : Int32).toNatClampNeg → (∃ n35 : Nat, wb_La_law_23 e0 mi L xs n35 (some q1) (some q14) (some q27) (0 : Int32) w33 (((((nc - 1) - k9) - 1) - k22) - 1) (((((ns - 9) - k10) - 32) - k23) - (1 : Int32).toNatClampNeg))))))
set_option maxHeartbeats 4000000 in
set_option maxRecDepth 100000 in
theorem k_La_law_0 {p : Program} {l : Launch} {e : Env} {s : State} {m : MethodId} {below : List Frame} {meth : Method} {c : Code} {D : va_G} {AC : Nat → ClassId} {e0 mi : Nat} {x0 L : Nat} {xs : Nat → Int32} (C : Cx p l s m #[Value.ref x0] meth c D AC e0 mi (fun q : Nat => s.heap.size ≤ q) n_La_law b_La_law 7 (some .boolean)) (hX : va_X x0 L xs s s.heap) (hbl : x0 < s.heap.size) (w : Wd) (nc ns : Nat) (hq : wp_La_law e0 mi  w nc ns L xs) : ∀ (H : Heap) (locs : List Loc) (cells slots : Nat) (ls : Array Slot), HW D cls8 FTc AC (fun q : Nat => s.heap.size ≤ q) s.heap H locs w → lv_has ls 7 [(0, va_rf (some x0))] → cells + nc ≤ 600002 → slots + ns ≤ 7302231 → W p l e room_1 s m #[Value.ref x0] below meth c H locs cells slots (lw_Z below #[Value.ref x0] s) (F0 m 0 ls []) := by
  obtain ⟨hl0, hx, hb, hr, ht, hown, hlocks, hnm, hml, hex, hK, hA, hZ, hV⟩ := id C
  have hbA : ¬ (fun q : Nat => s.heap.size ≤ q) x0 := Nat.not_le.mpr hbl
  intro H locs cells slots ls hW hl hc hs
  unfold wp_La_law at hq
  obtain ⟨h2, h3, hq⟩ := hq
  refine bw_mk (ci := 5) hx hb ht in_Br y_Br yk_Br hown (ht _ m_25) (ht _ m_26) (ht _ m_1) hK hW hA (by decide) (by rfl) df_Br (Nat.le_trans (Nat.add_le_add_left h2 _) hc) (Nat.le_trans (Nat.add_le_add_left h3 _) hs) d_La_law_0 (fun q1 H n4 hW => ?_)
  obtain ⟨w5, ew5⟩ : ∃ z : Wd, z = bw_new w q1 5 0 := ⟨_, rfl⟩
  rw [← ew5] at hW
  have hq := hq q1 n4 w5 ew5
  have hc := bw_bud hc h2
  have hs := bw_bud hs h3
  have t6 : bw_is w5 q1 5 := by rw [ew5]; exact bw_is_self _ _ _ _
  refine lv_dup hx hb d_La_law_3 (bw_cat _) ?_
  obtain ⟨k9, k10, h11, h12, hq⟩ := hq
  refine bw_callI (As := []) (rest := [va_rf (some q1)]) C hW ci_Br_init rfl m_27 m_28 d_La_law_4 rfl rfl hl.1 (by simp [bw_cat, cat_i, cat_j]) ⟨Nat.le_of_ble_eq_true rfl, Nat.le_of_ble_eq_true rfl⟩ ⟨Nat.le_trans (Nat.add_le_add_left h11 _) hc, Nat.le_trans (Nat.add_le_add_left h12 _) hs⟩ (c_Br_init hl0 _ _ _ _ hq) (fun v7 w8 H locs hv hW => ?_)
  obtain ⟨rfl, hq⟩ := hv
  have hc := bw_bud hc h11
  have hs := bw_bud hs h12
  refine W.eq (g2 := F0 m 7 ls [va_rf (some q1)]) rfl ?_
  refine bw_astore_n (i := 1) (lv' := [(1, va_rf (some q1)), (0, va_rf (some x0))]) hx hb d_La_law_7 rfl hl (by decide) (by simp [bw_cat, cat_i, cat_j]) (fun ls hl => ?_)
  obtain ⟨h15, h16, hq⟩ := hq
  refine bw_mk (ci := 6) hx hb ht in_Mo y_Mo yk_Mo hown (ht _ m_738) (ht _ m_739) (ht _ m_5) hK hW hA (by decide) (by rfl) df_Mo (Nat.le_trans (Nat.add_le_add_left h15 _) hc) (Nat.le_trans (Nat.add_le_add_left h16 _) hs) d_La_law_8 (fun q14 H n17 hW => ?_)
  obtain ⟨w18, ew18⟩ : ∃ z : Wd, z = bw_new w8 q14 6 0 := ⟨_, rfl⟩
  rw [← ew18] at hW
  have hq := hq q14 n17 w18 ew18
  have hc := bw_bud hc h15
  have hs := bw_bud hs h16
  have t19 : bw_is w18 q14 6 := by rw [ew18]; exact bw_is_self _ _ _ _
  refine lv_dup hx hb d_La_law_11 (bw_cat _) ?_
  obtain ⟨k22, k23, h24, h25, hq⟩ := hq
  refine bw_callI (As := []) (rest := [va_rf (some q14)]) C hW ci_Mo_init rfl m_740 m_741 d_La_law_12 rfl rfl hl.1 (by simp [bw_cat, cat_i, cat_j]) ⟨Nat.le_of_ble_eq_true rfl, Nat.le_of_ble_eq_true rfl⟩ ⟨Nat.le_trans (Nat.add_le_add_left h24 _) hc, Nat.le_trans (Nat.add_le_add_left h25 _) hs⟩ (c_Mo_init hl0 _ _ _ _ hq) (fun v20 w21 H locs hv hW => ?_)
  obtain ⟨rfl, hq⟩ := hv
  have hc := bw_bud hc h24
  have hs := bw_bud hs h25
  refine W.eq (g2 := F0 m 15 ls [va_rf (some q14)]) rfl ?_
  refine bw_astore_n (i := 2) (lv' := [(2, va_rf (some q14)), (1, va_rf (some q1)), (0, va_rf (some x0))]) hx hb d_La_law_15 rfl hl (by decide) (by simp [bw_cat, cat_i, cat_j]) (fun ls hl => ?_)
  refine lv_iconst (v := 1) hx hb d_La_law_16 (by decide) ?_
  obtain ⟨h28, h31, h29, h30, hq⟩ := hq
  refine bw_newJ C hW m_843 h28 h31 (Nat.le_trans (Nat.add_le_add_left h29 _) hc) (Nat.le_trans (Nat.add_le_add_left h30 _) hs) d_La_law_17 (fun q27 H n32 hW => ?_)
  obtain ⟨w33, ew33⟩ : ∃ z : Wd, z = bw_new w21 q27 102 (1 : Int32).toNatClampNeg := ⟨_, rfl⟩
  rw [← ew33] at hW
  have hq := hq q27 n32 w33 ew33
  have hc := bw_bud hc h29
  have hs := bw_bud hs h30
  have t34 : bw_is w33 q27 102 := by rw [ew33]; exact bw_is_self _ _ _ _
  refine bw_astore_n (i := 3) (lv' := [(3, va_rf (some q27)), (2, va_rf (some q14)), (1, va_rf (some q1)), (0, va_rf (some x0))]) hx hb d_La_law_19 rfl hl (by decide) (by simp [bw_cat, cat_i, cat_j]) (fun ls hl => ?_)
  refine lv_iconst (v := 0) hx hb d_La_law_20 (by decide) ?_
  refine lv_istore (lv' := [(4, .int (0 : Int32)), (3, va_rf (some q27)), (2, va_rf (some q14)), (1, va_rf (some q1)), (0, va_rf (some x0))]) hx hb d_La_law_21 hl (by decide) (by simp [bw_cat, cat_i, cat_j]) (fun ls hl => ?_)
  obtain ⟨n35, hq⟩ := hq
  exact k_La_law_23 C hX hbl  n35 _ _ _ _ _ _ _ hq _ _ _ _ _ hW (lv_sub hl [4, 3, 2, 1, 0] rfl) hc hs

