/-! printed by wip/gen/walk.py out of the bytecode: Mo_init -/
def wp_Mo_init (e0 mi : Nat) (x0 : Nat) (w : Wd) (nc ns : Nat) (Q : Wd → Prop) : Prop :=
  bw_is w x0 6 ∧ (¬ (8 : Int32) < 0 ∧ (8 : Int32).toNatClampNeg * 4 ≤ 536870912 ∧ 1 ≤ nc ∧ (8 : Int32).toNatClampNeg ≤ ns ∧ ∀ q2 : Nat, q2 ∉ wL (sI w x0 2 (100 : Int32)) → ∀ w8 : Wd, w8 = bw_new (sI w x0 2 (100 : Int32)) q2 101 (8 : Int32).toNatClampNeg → ∀ c9 : Nat, c9 = nc - 1 → ∀ s10 : Nat, s10 = ns - (8 : Int32).toNatClampNeg → (¬ (8 : Int32) < 0 ∧ (8 : Int32).toNatClampNeg * 4 ≤ 536870912 ∧ 1 ≤ c9 ∧ (8 : Int32).toNatClampNeg ≤ s10 ∧ ∀ q12 : Nat, q12 ∉ wL (sR w8 x0 4 (some q2)) → ∀ w18 : Wd, w18 = bw_new (sR w8 x0 4 (some q2)) q12 101 (8 : Int32).toNatClampNeg → ∀ c19 : Nat, c19 = c9 - 1 → ∀ s20 : Nat, s20 = s10 - (8 : Int32).toNatClampNeg → (¬ (8 : Int32) < 0 ∧ (8 : Int32).toNatClampNeg * 1 ≤ 536870912 ∧ 1 ≤ c19 ∧ (8 : Int32).toNatClampNeg ≤ s20 ∧ ∀ q22 : Nat, q22 ∉ wL (sR w18 x0 5 (some q12)) → ∀ w28 : Wd, w28 = bw_new (sR w18 x0 5 (some q12)) q22 103 (8 : Int32).toNatClampNeg → ∀ c29 : Nat, c29 = c19 - 1 → ∀ s30 : Nat, s30 = s20 - (8 : Int32).toNatClampNeg → (¬ (16 : Int32) < 0 ∧ (16 : Int32).toNatClampNeg * 4 ≤ 536870912 ∧ 1 ≤ c29 ∧ (16 : Int32).toNatClampNeg ≤ s30 ∧ ∀ q32 : Nat, q32 ∉ wL (sR w28 x0 6 (some q22)) → ∀ w38 : Wd, w38 = bw_new (sR w28 x0 6 (some q22)) q32 101 (16 : Int32).toNatClampNeg → ∀ c39 : Nat, c39 = c29 - 1 → ∀ s40 : Nat, s40 = s30 - (16 : Int32).toNatClampNeg → (¬ (16 : Int32) < 0 ∧ (16 : Int32).toNatClampNeg * 4 ≤ 536870912 ∧ 1 ≤ c39 ∧ (16 : Int32).toNatClampNeg ≤ s40 ∧ ∀ q42 : Nat, q42 ∉ wL (sR w38 x0 7 (some q32)) → ∀ w48 : Wd, w48 = bw_new (sR w38 x0 7 (some q32)) q42 101 (16 : Int32).toNatClampNeg → ∀ c49 : Nat, c49 = c39 - 1 → ∀ s50 : Nat, s50 = s40 - (16 : Int32).toNatClampNeg → (¬ (16 : Int32) < 0 ∧ (16 : Int32).toNatClampNeg * 4 ≤ 536870912 ∧ 1 ≤ c49 ∧ (16 : Int32).toNatClampNeg ≤ s50 ∧ ∀ q52 : Nat, q52 ∉ wL (sR w48 x0 8 (some q42)) → ∀ w58 : Wd, w58 = bw_new (sR w48 x0 8 (some q42)) q52 101 (16 : Int32).toNatClampNeg → ∀ c59 : Nat, c59 = c49 - 1 → ∀ s60 : Nat, s60 = s50 - (16 : Int32).toNatClampNeg → (¬ (8 : Int32) < 0 ∧ (8 : Int32).toNatClampNeg * 4 ≤ 536870912 ∧ 1 ≤ c59 ∧ (8 : Int32).toNatClampNeg ≤ s60 ∧ ∀ q62 : Nat, q62 ∉ wL (sR w58 x0 9 (some q52)) → ∀ w68 : Wd, w68 = bw_new (sR w58 x0 9 (some q52)) q62 101 (8 : Int32).toNatClampNeg → ∀ c69 : Nat, c69 = c59 - 1 → ∀ s70 : Nat, s70 = s60 - (8 : Int32).toNatClampNeg → (¬ (480 : Int32) < 0 ∧ (480 : Int32).toNatClampNeg * 4 ≤ 536870912 ∧ 1 ≤ c69 ∧ (480 : Int32).toNatClampNeg ≤ s70 ∧ ∀ q72 : Nat, q72 ∉ wL (sR w68 x0 10 (some q62)) → ∀ w78 : Wd, w78 = bw_new (sR w68 x0 10 (some q62)) q72 101 (480 : Int32).toNatClampNeg → ∀ c79 : Nat, c79 = c69 - 1 → ∀ s80 : Nat, s80 = s70 - (480 : Int32).toNatClampNeg → (¬ (61 : Int32) < 0 ∧ (61 : Int32).toNatClampNeg * 4 ≤ 536870912 ∧ 1 ≤ c79 ∧ (61 : Int32).toNatClampNeg ≤ s80 ∧ ∀ q82 : Nat, q82 ∉ wL (sR w78 x0 11 (some q72)) → ∀ w88 : Wd, w88 = bw_new (sR w78 x0 11 (some q72)) q82 101 (61 : Int32).toNatClampNeg → ∀ c89 : Nat, c89 = c79 - 1 → ∀ s90 : Nat, s90 = s80 - (61 : Int32).toNatClampNeg → (¬ (61 : Int32) < 0 ∧ (61 : Int32).toNatClampNeg * 4 ≤ 536870912 ∧ 1 ≤ c89 ∧ (61 : Int32).toNatClampNeg ≤ s90 ∧ ∀ q92 : Nat, q92 ∉ wL (sR w88 x0 13 (some q82)) → ∀ w98 : Wd, w98 = bw_new (sR w88 x0 13 (some q82)) q92 101 (61 : Int32).toNatClampNeg → ∀ c99 : Nat, c99 = c89 - 1 → ∀ s100 : Nat, s100 = s90 - (61 : Int32).toNatClampNeg → (¬ (61 : Int32) < 0 ∧ (61 : Int32).toNatClampNeg * 4 ≤ 536870912 ∧ 1 ≤ c99 ∧ (61 : Int32).toNatClampNeg ≤ s100 ∧ ∀ q102 : Nat, q102 ∉ wL (sR w98 x0 14 (some q92)) → ∀ w108 : Wd, w108 = bw_new (sR w98 x0 14 (some q92)) q102 101 (61 : Int32).toNatClampNeg → ∀ c109 : Nat, c109 = c99 - 1 → ∀ s110 : Nat, s110 = s100 - (61 : Int32).toNatClampNeg → (¬ (61 : Int32) < 0 ∧ (61 : Int32).toNatClampNeg * 4 ≤ 536870912 ∧ 1 ≤ c109 ∧ (61 : Int32).toNatClampNeg ≤ s110 ∧ ∀ q112 : Nat, q112 ∉ wL (sR w108 x0 15 (some q102)) → ∀ w118 : Wd, w118 = bw_new (sR w108 x0 15 (some q102)) q112 101 (61 : Int32).toNatClampNeg → ∀ c119 : Nat, c119 = c109 - 1 → ∀ s120 : Nat, s120 = s110 - (61 : Int32).toNatClampNeg → (¬ (61 : Int32) < 0 ∧ (61 : Int32).toNatClampNeg * 4 ≤ 536870912 ∧ 1 ≤ c119 ∧ (61 : Int32).toNatClampNeg ≤ s120 ∧ ∀ q122 : Nat, q122 ∉ wL (sR w118 x0 16 (some q112)) → ∀ w128 : Wd, w128 = bw_new (sR w118 x0 16 (some q112)) q122 101 (61 : Int32).toNatClampNeg → ∀ c129 : Nat, c129 = c119 - 1 → ∀ s130 : Nat, s130 = s120 - (61 : Int32).toNatClampNeg → (¬ (61 : Int32) < 0 ∧ (61 : Int32).toNatClampNeg * 1 ≤ 536870912 ∧ 1 ≤ c129 ∧ (61 : Int32).toNatClampNeg ≤ s130 ∧ ∀ q132 : Nat, q132 ∉ wL (sR w128 x0 17 (some q122)) → ∀ w138 : Wd, w138 = bw_new (sR w128 x0 17 (some q122)) q132 103 (61 : Int32).toNatClampNeg → ∀ c139 : Nat, c139 = c129 - 1 → ∀ s140 : Nat, s140 = s130 - (61 : Int32).toNatClampNeg → (¬ (61 : Int32) < 0 ∧ (61 : Int32).toNatClampNeg * 4 ≤ 536870912 ∧ 1 ≤ c139 ∧ (61 : Int32).toNatClampNeg ≤ s140 ∧ ∀ q142 : Nat, q142 ∉ wL (sR w138 x0 18 (some q132)) → ∀ w148 : Wd, w148 = bw_new (sR w138 x0 18 (some q132)) q142 101 (61 : Int32).toNatClampNeg → ∀ c149 : Nat, c149 = c139 - 1 → ∀ s150 : Nat, s150 = s140 - (61 : Int32).toNatClampNeg → (¬ (61 : Int32) < 0 ∧ (61 : Int32).toNatClampNeg * 4 ≤ 536870912 ∧ 1 ≤ c149 ∧ (61 : Int32).toNatClampNeg ≤ s150 ∧ ∀ q152 : Nat, q152 ∉ wL (sR w148 x0 19 (some q142)) → ∀ w158 : Wd, w158 = bw_new (sR w148 x0 19 (some q142)) q152 101 (61 : Int32).toNatClampNeg → ∀ c159 : Nat, c159 = c149 - 1 → ∀ s160 : Nat, s160 = s150 - (61 : Int32).toNatClampNeg → (¬ (4 : Int32) < 0 ∧ (4 : Int32).toNatClampNeg * 4 ≤ 536870912 ∧ 1 ≤ c159 ∧ (4 : Int32).toNatClampNeg ≤ s160 ∧ ∀ q162 : Nat, q162 ∉ wL (sR w158 x0 20 (some q152)) → ∀ w168 : Wd, w168 = bw_new (sR w158 x0 20 (some q152)) q162 101 (4 : Int32).toNatClampNeg → ∀ c169 : Nat, c169 = c159 - 1 → ∀ s170 : Nat, s170 = s160 - (4 : Int32).toNatClampNeg → (¬ (4 : Int32) < 0 ∧ (4 : Int32).toNatClampNeg * 4 ≤ 536870912 ∧ 1 ≤ c169 ∧ (4 : Int32).toNatClampNeg ≤ s170 ∧ ∀ q172 : Nat, q172 ∉ wL (sR w168 x0 22 (some q162)) → ∀ w178 : Wd, w178 = bw_new (sR w168 x0 22 (some q162)) q172 101 (4 : Int32).toNatClampNeg → ∀ c179 : Nat, c179 = c169 - 1 → ∀ s180 : Nat, s180 = s170 - (4 : Int32).toNatClampNeg → (¬ (4 : Int32) < 0 ∧ (4 : Int32).toNatClampNeg * 4 ≤ 536870912 ∧ 1 ≤ c179 ∧ (4 : Int32).toNatClampNeg ≤ s180 ∧ ∀ q182 : Nat, q182 ∉ wL (sR w178 x0 23 (some q172)) → ∀ w188 : Wd, w188 = bw_new (sR w178 x0 23 (some q172)) q182 101 (4 : Int32).toNatClampNeg → ∀ c189 : Nat, c189 = c179 - 1 → ∀ s190 : Nat, s190 = s180 - (4 : Int32).toNatClampNeg → (¬ (3000 : Int32) < 0 ∧ (3000 : Int32).toNatClampNeg * 8 ≤ 536870912 ∧ 1 ≤ c189 ∧ (3000 : Int32).toNatClampNeg ≤ s190 ∧ ∀ q192 : Nat, q192 ∉ wL (sR w188 x0 24 (some q182)) → ∀ w198 : Wd, w198 = bw_new (sR w188 x0 24 (some q182)) q192 102 (3000 : Int32).toNatClampNeg → ∀ c199 : Nat, c199 = c189 - 1 → ∀ s200 : Nat, s200 = s190 - (3000 : Int32).toNatClampNeg → (¬ (6000 : Int32) < 0 ∧ (6000 : Int32).toNatClampNeg * 8 ≤ 536870912 ∧ 1 ≤ c199 ∧ (6000 : Int32).toNatClampNeg ≤ s200 ∧ ∀ q202 : Nat, q202 ∉ wL (sR w198 x0 26 (some q192)) → ∀ w208 : Wd, w208 = bw_new (sR w198 x0 26 (some q192)) q202 102 (6000 : Int32).toNatClampNeg → ∀ c209 : Nat, c209 = c199 - 1 → ∀ s210 : Nat, s210 = s200 - (6000 : Int32).toNatClampNeg → (¬ (60 : Int32) < 0 ∧ (60 : Int32).toNatClampNeg * 4 ≤ 536870912 ∧ 1 ≤ c209 ∧ (60 : Int32).toNatClampNeg ≤ s210 ∧ ∀ q212 : Nat, q212 ∉ wL (sR w208 x0 28 (some q202)) → ∀ w218 : Wd, w218 = bw_new (sR w208 x0 28 (some q202)) q212 101 (60 : Int32).toNatClampNeg → ∀ c219 : Nat, c219 = c209 - 1 → ∀ s220 : Nat, s220 = s210 - (60 : Int32).toNatClampNeg → (Q (sR w218 x0 31 (some q212)))))))))))))))))))))))))
set_option maxHeartbeats 4000000 in
set_option maxRecDepth 100000 in
theorem k_Mo_init_0 {p : Program} {l : Launch} {e : Env} {s : State} {m : MethodId} {args : Array Value} {below : List Frame} {meth : Method} {c : Code} {D : va_G} {AC : Nat → ClassId} {e0 mi : Nat} {A : Nat → Prop} {mc ms : Nat} {Q : Wd → Prop} (C : Cx p l s m args meth c D AC e0 mi A n_Mo_init b_Mo_init 1 none) (x0 : Nat) (w : Wd) (nc ns : Nat) (hq : wp_Mo_init e0 mi x0 w nc ns Q) : ∀ (H : Heap) (locs : List Loc) (cells slots : Nat) (ls : Array Slot), HW D cls8 FTc AC A s.heap H locs w → lv_has ls 1 [(0, va_rf (some x0))] → cells + nc ≤ mc → slots + ns ≤ ms → W p l e { frames := 1, cells := mc, slots := ms, locals := 40 } s m args below meth c H locs cells slots (vx_MQ below (QQ D AC A (fun v w9 => v = none ∧ Q w9)) (XX D AC A (fun _ _ => False)) args s mc ms A) (F0 m 0 ls []) := by
  obtain ⟨hl0, hx, hb, hr, ht, hown, hlocks, hnm, hml, hex, hK, hA, hZ, hV⟩ := id C
  intro H locs cells slots ls hW hl hc hs
  unfold wp_Mo_init at hq
  refine bw_aload_n hx hb d_Mo_init_0 rfl (lv_at hl 0 rfl) ?_
  refine W.objInit hx hb hown (ht _ m_743) (ht _ m_31) (ht _ m_32) rfl (by rw [hml]; exact hl.1) rfl d_Mo_init_1 (Nat.le_of_ble_eq_true rfl) (Nat.le_of_ble_eq_true rfl) ?_
  refine W.eq (g2 := F0 m 4 ls []) rfl ?_
  refine bw_aload_n hx hb d_Mo_init_4 rfl (lv_at hl 0 rfl) ?_
  refine lv_bipush (v := 100) hx hb d_Mo_init_5 (by decide) ?_
  obtain ⟨t1, hq⟩ := hq
  refine bw_putI hx hb ht in_Mo y_Mo yk_Mo nm_Mo hown hK hW rfl t1 (by decide) rfl 2 (by decide) rfl (ht _ m_746) (fun _ h => h) (Or.inl rfl) rfl rfl d_Mo_init_7 (fun H locs hW => ?_)
  refine bw_aload_n hx hb d_Mo_init_10 rfl (lv_at hl 0 rfl) ?_
  refine lv_bipush (v := 8) hx hb d_Mo_init_11 (by decide) ?_
  obtain ⟨h3, h6, h4, h5, hq⟩ := hq
  refine bw_newI C hW m_841 h3 h6 (Nat.le_trans (Nat.add_le_add_left h4 _) hc) (Nat.le_trans (Nat.add_le_add_left h5 _) hs) d_Mo_init_13 (fun q2 H n7 hW => ?_)
  obtain ⟨w8, ew8⟩ : ∃ z : Wd, z = bw_new (sI w x0 2 (100 : Int32)) q2 101 (8 : Int32).toNatClampNeg := ⟨_, rfl⟩
  rw [← ew8] at hW
  have hq := hq q2 n7 w8 ew8
  have hc := bw_bud hc h4
  have hs := bw_bud hs h5
  obtain ⟨c9, ec9⟩ : ∃ z : Nat, z = nc - 1 := ⟨_, rfl⟩
  obtain ⟨s10, es10⟩ : ∃ z : Nat, z = ns - (8 : Int32).toNatClampNeg := ⟨_, rfl⟩
  rw [← ec9] at hc
  rw [← es10] at hs
  have hq := hq c9 ec9 s10 es10
  generalize hcg : cells + 1 = cells at hc ⊢
  clear hcg
  generalize hsg : slots + (8 : Int32).toNatClampNeg = slots at hs ⊢
  clear hsg
  have t1 : bw_is w8 x0 6 := by rw [ew8]; exact bw_is_new n7 t1
  have t11 : bw_is w8 q2 101 := by rw [ew8]; exact bw_is_self _ _ _ _
  refine bw_putR hx hb ht in_Mo y_Mo yk_Mo nm_Mo hown hK hW rfl t1 (by decide) rfl 4 (by decide) rfl (ht _ m_748) (fun _ h => h) (Or.inr ⟨rfl, hnm, rfl⟩) (bw_nra _ _) (bw_fra _ _) d_Mo_init_15 (fun H locs hW => ?_)
  refine bw_aload_n hx hb d_Mo_init_18 rfl (lv_at hl 0 rfl) ?_
  refine lv_bipush (v := 8) hx hb d_Mo_init_19 (by decide) ?_
  obtain ⟨h13, h16, h14, h15, hq⟩ := hq
  refine bw_newI C hW m_841 h13 h16 (Nat.le_trans (Nat.add_le_add_left h14 _) hc) (Nat.le_trans (Nat.add_le_add_left h15 _) hs) d_Mo_init_21 (fun q12 H n17 hW => ?_)
  obtain ⟨w18, ew18⟩ : ∃ z : Wd, z = bw_new (sR w8 x0 4 (some q2)) q12 101 (8 : Int32).toNatClampNeg := ⟨_, rfl⟩
  rw [← ew18] at hW
  have hq := hq q12 n17 w18 ew18
  have hc := bw_bud hc h14
  have hs := bw_bud hs h15
  obtain ⟨c19, ec19⟩ : ∃ z : Nat, z = c9 - 1 := ⟨_, rfl⟩
  obtain ⟨s20, es20⟩ : ∃ z : Nat, z = s10 - (8 : Int32).toNatClampNeg := ⟨_, rfl⟩
  rw [← ec19] at hc
  rw [← es20] at hs
  have hq := hq c19 ec19 s20 es20
  generalize hcg : cells + 1 = cells at hc ⊢
  clear hcg
  generalize hsg : slots + (8 : Int32).toNatClampNeg = slots at hs ⊢
  clear hsg
  have t1 : bw_is w18 x0 6 := by rw [ew18]; exact bw_is_new n17 t1
  have t21 : bw_is w18 q12 101 := by rw [ew18]; exact bw_is_self _ _ _ _
  refine bw_putR hx hb ht in_Mo y_Mo yk_Mo nm_Mo hown hK hW rfl t1 (by decide) rfl 5 (by decide) rfl (ht _ m_749) (fun _ h => h) (Or.inr ⟨rfl, hnm, rfl⟩) (bw_nra _ _) (bw_fra _ _) d_Mo_init_23 (fun H locs hW => ?_)
  refine bw_aload_n hx hb d_Mo_init_26 rfl (lv_at hl 0 rfl) ?_
  refine lv_bipush (v := 8) hx hb d_Mo_init_27 (by decide) ?_
  obtain ⟨h23, h26, h24, h25, hq⟩ := hq
  refine bw_newZ C hW m_842 h23 h26 (Nat.le_trans (Nat.add_le_add_left h24 _) hc) (Nat.le_trans (Nat.add_le_add_left h25 _) hs) d_Mo_init_29 (fun q22 H n27 hW => ?_)
  obtain ⟨w28, ew28⟩ : ∃ z : Wd, z = bw_new (sR w18 x0 5 (some q12)) q22 103 (8 : Int32).toNatClampNeg := ⟨_, rfl⟩
  rw [← ew28] at hW
  have hq := hq q22 n27 w28 ew28
  have hc := bw_bud hc h24
  have hs := bw_bud hs h25
  obtain ⟨c29, ec29⟩ : ∃ z : Nat, z = c19 - 1 := ⟨_, rfl⟩
  obtain ⟨s30, es30⟩ : ∃ z : Nat, z = s20 - (8 : Int32).toNatClampNeg := ⟨_, rfl⟩
  rw [← ec29] at hc
  rw [← es30] at hs
  have hq := hq c29 ec29 s30 es30
  generalize hcg : cells + 1 = cells at hc ⊢
  clear hcg
  generalize hsg : slots + (8 : Int32).toNatClampNeg = slots at hs ⊢
  clear hsg
  have t1 : bw_is w28 x0 6 := by rw [ew28]; exact bw_is_new n27 t1
  have t31 : bw_is w28 q22 103 := by rw [ew28]; exact bw_is_self _ _ _ _
  refine bw_putR hx hb ht in_Mo y_Mo yk_Mo nm_Mo hown hK hW rfl t1 (by decide) rfl 6 (by decide) rfl (ht _ m_750) (fun _ h => h) (Or.inr ⟨rfl, hnm, rfl⟩) (bw_nra _ _) (bw_fra _ _) d_Mo_init_31 (fun H locs hW => ?_)
  refine bw_aload_n hx hb d_Mo_init_34 rfl (lv_at hl 0 rfl) ?_
  refine lv_bipush (v := 16) hx hb d_Mo_init_35 (by decide) ?_
  obtain ⟨h33, h36, h34, h35, hq⟩ := hq
  refine bw_newI C hW m_841 h33 h36 (Nat.le_trans (Nat.add_le_add_left h34 _) hc) (Nat.le_trans (Nat.add_le_add_left h35 _) hs) d_Mo_init_37 (fun q32 H n37 hW => ?_)
  obtain ⟨w38, ew38⟩ : ∃ z : Wd, z = bw_new (sR w28 x0 6 (some q22)) q32 101 (16 : Int32).toNatClampNeg := ⟨_, rfl⟩
  rw [← ew38] at hW
  have hq := hq q32 n37 w38 ew38
  have hc := bw_bud hc h34
  have hs := bw_bud hs h35
  obtain ⟨c39, ec39⟩ : ∃ z : Nat, z = c29 - 1 := ⟨_, rfl⟩
  obtain ⟨s40, es40⟩ : ∃ z : Nat, z = s30 - (16 : Int32).toNatClampNeg := ⟨_, rfl⟩
  rw [← ec39] at hc
  rw [← es40] at hs
  have hq := hq c39 ec39 s40 es40
  generalize hcg : cells + 1 = cells at hc ⊢
  clear hcg
  generalize hsg : slots + (16 : Int32).toNatClampNeg = slots at hs ⊢
  clear hsg
  have t1 : bw_is w38 x0 6 := by rw [ew38]; exact bw_is_new n37 t1
  have t41 : bw_is w38 q32 101 := by rw [ew38]; exact bw_is_self _ _ _ _
  refine bw_putR hx hb ht in_Mo y_Mo yk_Mo nm_Mo hown hK hW rfl t1 (by decide) rfl 7 (by decide) rfl (ht _ m_751) (fun _ h => h) (Or.inr ⟨rfl, hnm, rfl⟩) (bw_nra _ _) (bw_fra _ _) d_Mo_init_39 (fun H locs hW => ?_)
  refine bw_aload_n hx hb d_Mo_init_42 rfl (lv_at hl 0 rfl) ?_
  refine lv_bipush (v := 16) hx hb d_Mo_init_43 (by decide) ?_
  obtain ⟨h43, h46, h44, h45, hq⟩ := hq
  refine bw_newI C hW m_841 h43 h46 (Nat.le_trans (Nat.add_le_add_left h44 _) hc) (Nat.le_trans (Nat.add_le_add_left h45 _) hs) d_Mo_init_45 (fun q42 H n47 hW => ?_)
  obtain ⟨w48, ew48⟩ : ∃ z : Wd, z = bw_new (sR w38 x0 7 (some q32)) q42 101 (16 : Int32).toNatClampNeg := ⟨_, rfl⟩
  rw [← ew48] at hW
  have hq := hq q42 n47 w48 ew48
  have hc := bw_bud hc h44
  have hs := bw_bud hs h45
  obtain ⟨c49, ec49⟩ : ∃ z : Nat, z = c39 - 1 := ⟨_, rfl⟩
  obtain ⟨s50, es50⟩ : ∃ z : Nat, z = s40 - (16 : Int32).toNatClampNeg := ⟨_, rfl⟩
  rw [← ec49] at hc
  rw [← es50] at hs
  have hq := hq c49 ec49 s50 es50
  generalize hcg : cells + 1 = cells at hc ⊢
  clear hcg
  generalize hsg : slots + (16 : Int32).toNatClampNeg = slots at hs ⊢
  clear hsg
  have t1 : bw_is w48 x0 6 := by rw [ew48]; exact bw_is_new n47 t1
  have t51 : bw_is w48 q42 101 := by rw [ew48]; exact bw_is_self _ _ _ _
  refine bw_putR hx hb ht in_Mo y_Mo yk_Mo nm_Mo hown hK hW rfl t1 (by decide) rfl 8 (by decide) rfl (ht _ m_752) (fun _ h => h) (Or.inr ⟨rfl, hnm, rfl⟩) (bw_nra _ _) (bw_fra _ _) d_Mo_init_47 (fun H locs hW => ?_)
  refine bw_aload_n hx hb d_Mo_init_50 rfl (lv_at hl 0 rfl) ?_
  refine lv_bipush (v := 16) hx hb d_Mo_init_51 (by decide) ?_
  obtain ⟨h53, h56, h54, h55, hq⟩ := hq
  refine bw_newI C hW m_841 h53 h56 (Nat.le_trans (Nat.add_le_add_left h54 _) hc) (Nat.le_trans (Nat.add_le_add_left h55 _) hs) d_Mo_init_53 (fun q52 H n57 hW => ?_)
  obtain ⟨w58, ew58⟩ : ∃ z : Wd, z = bw_new (sR w48 x0 8 (some q42)) q52 101 (16 : Int32).toNatClampNeg := ⟨_, rfl⟩
  rw [← ew58] at hW
  have hq := hq q52 n57 w58 ew58
  have hc := bw_bud hc h54
  have hs := bw_bud hs h55
  obtain ⟨c59, ec59⟩ : ∃ z : Nat, z = c49 - 1 := ⟨_, rfl⟩
  obtain ⟨s60, es60⟩ : ∃ z : Nat, z = s50 - (16 : Int32).toNatClampNeg := ⟨_, rfl⟩
  rw [← ec59] at hc
  rw [← es60] at hs
  have hq := hq c59 ec59 s60 es60
  generalize hcg : cells + 1 = cells at hc ⊢
  clear hcg
  generalize hsg : slots + (16 : Int32).toNatClampNeg = slots at hs ⊢
  clear hsg
  have t1 : bw_is w58 x0 6 := by rw [ew58]; exact bw_is_new n57 t1
  have t61 : bw_is w58 q52 101 := by rw [ew58]; exact bw_is_self _ _ _ _
  refine bw_putR hx hb ht in_Mo y_Mo yk_Mo nm_Mo hown hK hW rfl t1 (by decide) rfl 9 (by decide) rfl (ht _ m_753) (fun _ h => h) (Or.inr ⟨rfl, hnm, rfl⟩) (bw_nra _ _) (bw_fra _ _) d_Mo_init_55 (fun H locs hW => ?_)
  refine bw_aload_n hx hb d_Mo_init_58 rfl (lv_at hl 0 rfl) ?_
  refine lv_bipush (v := 8) hx hb d_Mo_init_59 (by decide) ?_
  obtain ⟨h63, h66, h64, h65, hq⟩ := hq
  refine bw_newI C hW m_841 h63 h66 (Nat.le_trans (Nat.add_le_add_left h64 _) hc) (Nat.le_trans (Nat.add_le_add_left h65 _) hs) d_Mo_init_61 (fun q62 H n67 hW => ?_)
  obtain ⟨w68, ew68⟩ : ∃ z : Wd, z = bw_new (sR w58 x0 9 (some q52)) q62 101 (8 : Int32).toNatClampNeg := ⟨_, rfl⟩
  rw [← ew68] at hW
  have hq := hq q62 n67 w68 ew68
  have hc := bw_bud hc h64
  have hs := bw_bud hs h65
  obtain ⟨c69, ec69⟩ : ∃ z : Nat, z = c59 - 1 := ⟨_, rfl⟩
  obtain ⟨s70, es70⟩ : ∃ z : Nat, z = s60 - (8 : Int32).toNatClampNeg := ⟨_, rfl⟩
  rw [← ec69] at hc
  rw [← es70] at hs
  have hq := hq c69 ec69 s70 es70
  generalize hcg : cells + 1 = cells at hc ⊢
  clear hcg
  generalize hsg : slots + (8 : Int32).toNatClampNeg = slots at hs ⊢
  clear hsg
  have t1 : bw_is w68 x0 6 := by rw [ew68]; exact bw_is_new n67 t1
  have t71 : bw_is w68 q62 101 := by rw [ew68]; exact bw_is_self _ _ _ _
  refine bw_putR hx hb ht in_Mo y_Mo yk_Mo nm_Mo hown hK hW rfl t1 (by decide) rfl 10 (by decide) rfl (ht _ m_754) (fun _ h => h) (Or.inr ⟨rfl, hnm, rfl⟩) (bw_nra _ _) (bw_fra _ _) d_Mo_init_63 (fun H locs hW => ?_)
  refine bw_aload_n hx hb d_Mo_init_66 rfl (lv_at hl 0 rfl) ?_
  refine lv_sipush (v := 480) hx hb d_Mo_init_67 (by decide) ?_
  obtain ⟨h73, h76, h74, h75, hq⟩ := hq
  refine bw_newI C hW m_841 h73 h76 (Nat.le_trans (Nat.add_le_add_left h74 _) hc) (Nat.le_trans (Nat.add_le_add_left h75 _) hs) d_Mo_init_70 (fun q72 H n77 hW => ?_)
  obtain ⟨w78, ew78⟩ : ∃ z : Wd, z = bw_new (sR w68 x0 10 (some q62)) q72 101 (480 : Int32).toNatClampNeg := ⟨_, rfl⟩
  rw [← ew78] at hW
  have hq := hq q72 n77 w78 ew78
  have hc := bw_bud hc h74
  have hs := bw_bud hs h75
  obtain ⟨c79, ec79⟩ : ∃ z : Nat, z = c69 - 1 := ⟨_, rfl⟩
  obtain ⟨s80, es80⟩ : ∃ z : Nat, z = s70 - (480 : Int32).toNatClampNeg := ⟨_, rfl⟩
  rw [← ec79] at hc
  rw [← es80] at hs
  have hq := hq c79 ec79 s80 es80
  generalize hcg : cells + 1 = cells at hc ⊢
  clear hcg
  generalize hsg : slots + (480 : Int32).toNatClampNeg = slots at hs ⊢
  clear hsg
  have t1 : bw_is w78 x0 6 := by rw [ew78]; exact bw_is_new n77 t1
  have t81 : bw_is w78 q72 101 := by rw [ew78]; exact bw_is_self _ _ _ _
  refine bw_putR hx hb ht in_Mo y_Mo yk_Mo nm_Mo hown hK hW rfl t1 (by decide) rfl 11 (by decide) rfl (ht _ m_755) (fun _ h => h) (Or.inr ⟨rfl, hnm, rfl⟩) (bw_nra _ _) (bw_fra _ _) d_Mo_init_72 (fun H locs hW => ?_)
  refine bw_aload_n hx hb d_Mo_init_75 rfl (lv_at hl 0 rfl) ?_
  refine lv_bipush (v := 61) hx hb d_Mo_init_76 (by decide) ?_
  obtain ⟨h83, h86, h84, h85, hq⟩ := hq
  refine bw_newI C hW m_841 h83 h86 (Nat.le_trans (Nat.add_le_add_left h84 _) hc) (Nat.le_trans (Nat.add_le_add_left h85 _) hs) d_Mo_init_78 (fun q82 H n87 hW => ?_)
  obtain ⟨w88, ew88⟩ : ∃ z : Wd, z = bw_new (sR w78 x0 11 (some q72)) q82 101 (61 : Int32).toNatClampNeg := ⟨_, rfl⟩
  rw [← ew88] at hW
  have hq := hq q82 n87 w88 ew88
  have hc := bw_bud hc h84
  have hs := bw_bud hs h85
  obtain ⟨c89, ec89⟩ : ∃ z : Nat, z = c79 - 1 := ⟨_, rfl⟩
  obtain ⟨s90, es90⟩ : ∃ z : Nat, z = s80 - (61 : Int32).toNatClampNeg := ⟨_, rfl⟩
  rw [← ec89] at hc
  rw [← es90] at hs
  have hq := hq c89 ec89 s90 es90
  generalize hcg : cells + 1 = cells at hc ⊢
  clear hcg
  generalize hsg : slots + (61 : Int32).toNatClampNeg = slots at hs ⊢
  clear hsg
  have t1 : bw_is w88 x0 6 := by rw [ew88]; exact bw_is_new n87 t1
  have t91 : bw_is w88 q82 101 := by rw [ew88]; exact bw_is_self _ _ _ _
  refine bw_putR hx hb ht in_Mo y_Mo yk_Mo nm_Mo hown hK hW rfl t1 (by decide) rfl 13 (by decide) rfl (ht _ m_757) (fun _ h => h) (Or.inr ⟨rfl, hnm, rfl⟩) (bw_nra _ _) (bw_fra _ _) d_Mo_init_80 (fun H locs hW => ?_)
  refine bw_aload_n hx hb d_Mo_init_83 rfl (lv_at hl 0 rfl) ?_
  refine lv_bipush (v := 61) hx hb d_Mo_init_84 (by decide) ?_
  obtain ⟨h93, h96, h94, h95, hq⟩ := hq
  refine bw_newI C hW m_841 h93 h96 (Nat.le_trans (Nat.add_le_add_left h94 _) hc) (Nat.le_trans (Nat.add_le_add_left h95 _) hs) d_Mo_init_86 (fun q92 H n97 hW => ?_)
  obtain ⟨w98, ew98⟩ : ∃ z : Wd, z = bw_new (sR w88 x0 13 (some q82)) q92 101 (61 : Int32).toNatClampNeg := ⟨_, rfl⟩
  rw [← ew98] at hW
  have hq := hq q92 n97 w98 ew98
  have hc := bw_bud hc h94
  have hs := bw_bud hs h95
  obtain ⟨c99, ec99⟩ : ∃ z : Nat, z = c89 - 1 := ⟨_, rfl⟩
  obtain ⟨s100, es100⟩ : ∃ z : Nat, z = s90 - (61 : Int32).toNatClampNeg := ⟨_, rfl⟩
  rw [← ec99] at hc
  rw [← es100] at hs
  have hq := hq c99 ec99 s100 es100
  generalize hcg : cells + 1 = cells at hc ⊢
  clear hcg
  generalize hsg : slots + (61 : Int32).toNatClampNeg = slots at hs ⊢
  clear hsg
  have t1 : bw_is w98 x0 6 := by rw [ew98]; exact bw_is_new n97 t1
  have t101 : bw_is w98 q92 101 := by rw [ew98]; exact bw_is_self _ _ _ _
  refine bw_putR hx hb ht in_Mo y_Mo yk_Mo nm_Mo hown hK hW rfl t1 (by decide) rfl 14 (by decide) rfl (ht _ m_758) (fun _ h => h) (Or.inr ⟨rfl, hnm, rfl⟩) (bw_nra _ _) (bw_fra _ _) d_Mo_init_88 (fun H locs hW => ?_)
  refine bw_aload_n hx hb d_Mo_init_91 rfl (lv_at hl 0 rfl) ?_
  refine lv_bipush (v := 61) hx hb d_Mo_init_92 (by decide) ?_
  obtain ⟨h103, h106, h104, h105, hq⟩ := hq
  refine bw_newI C hW m_841 h103 h106 (Nat.le_trans (Nat.add_le_add_left h104 _) hc) (Nat.le_trans (Nat.add_le_add_left h105 _) hs) d_Mo_init_94 (fun q102 H n107 hW => ?_)
  obtain ⟨w108, ew108⟩ : ∃ z : Wd, z = bw_new (sR w98 x0 14 (some q92)) q102 101 (61 : Int32).toNatClampNeg := ⟨_, rfl⟩
  rw [← ew108] at hW
  have hq := hq q102 n107 w108 ew108
  have hc := bw_bud hc h104
  have hs := bw_bud hs h105
  obtain ⟨c109, ec109⟩ : ∃ z : Nat, z = c99 - 1 := ⟨_, rfl⟩
  obtain ⟨s110, es110⟩ : ∃ z : Nat, z = s100 - (61 : Int32).toNatClampNeg := ⟨_, rfl⟩
  rw [← ec109] at hc
  rw [← es110] at hs
  have hq := hq c109 ec109 s110 es110
  generalize hcg : cells + 1 = cells at hc ⊢
  clear hcg
  generalize hsg : slots + (61 : Int32).toNatClampNeg = slots at hs ⊢
  clear hsg
  have t1 : bw_is w108 x0 6 := by rw [ew108]; exact bw_is_new n107 t1
  have t111 : bw_is w108 q102 101 := by rw [ew108]; exact bw_is_self _ _ _ _
  refine bw_putR hx hb ht in_Mo y_Mo yk_Mo nm_Mo hown hK hW rfl t1 (by decide) rfl 15 (by decide) rfl (ht _ m_759) (fun _ h => h) (Or.inr ⟨rfl, hnm, rfl⟩) (bw_nra _ _) (bw_fra _ _) d_Mo_init_96 (fun H locs hW => ?_)
  refine bw_aload_n hx hb d_Mo_init_99 rfl (lv_at hl 0 rfl) ?_
  refine lv_bipush (v := 61) hx hb d_Mo_init_100 (by decide) ?_
  obtain ⟨h113, h116, h114, h115, hq⟩ := hq
  refine bw_newI C hW m_841 h113 h116 (Nat.le_trans (Nat.add_le_add_left h114 _) hc) (Nat.le_trans (Nat.add_le_add_left h115 _) hs) d_Mo_init_102 (fun q112 H n117 hW => ?_)
  obtain ⟨w118, ew118⟩ : ∃ z : Wd, z = bw_new (sR w108 x0 15 (some q102)) q112 101 (61 : Int32).toNatClampNeg := ⟨_, rfl⟩
  rw [← ew118] at hW
  have hq := hq q112 n117 w118 ew118
  have hc := bw_bud hc h114
  have hs := bw_bud hs h115
  obtain ⟨c119, ec119⟩ : ∃ z : Nat, z = c109 - 1 := ⟨_, rfl⟩
  obtain ⟨s120, es120⟩ : ∃ z : Nat, z = s110 - (61 : Int32).toNatClampNeg := ⟨_, rfl⟩
  rw [← ec119] at hc
  rw [← es120] at hs
  have hq := hq c119 ec119 s120 es120
  generalize hcg : cells + 1 = cells at hc ⊢
  clear hcg
  generalize hsg : slots + (61 : Int32).toNatClampNeg = slots at hs ⊢
  clear hsg
  have t1 : bw_is w118 x0 6 := by rw [ew118]; exact bw_is_new n117 t1
  have t121 : bw_is w118 q112 101 := by rw [ew118]; exact bw_is_self _ _ _ _
  refine bw_putR hx hb ht in_Mo y_Mo yk_Mo nm_Mo hown hK hW rfl t1 (by decide) rfl 16 (by decide) rfl (ht _ m_760) (fun _ h => h) (Or.inr ⟨rfl, hnm, rfl⟩) (bw_nra _ _) (bw_fra _ _) d_Mo_init_104 (fun H locs hW => ?_)
  refine bw_aload_n hx hb d_Mo_init_107 rfl (lv_at hl 0 rfl) ?_
  refine lv_bipush (v := 61) hx hb d_Mo_init_108 (by decide) ?_
  obtain ⟨h123, h126, h124, h125, hq⟩ := hq
  refine bw_newI C hW m_841 h123 h126 (Nat.le_trans (Nat.add_le_add_left h124 _) hc) (Nat.le_trans (Nat.add_le_add_left h125 _) hs) d_Mo_init_110 (fun q122 H n127 hW => ?_)
  obtain ⟨w128, ew128⟩ : ∃ z : Wd, z = bw_new (sR w118 x0 16 (some q112)) q122 101 (61 : Int32).toNatClampNeg := ⟨_, rfl⟩
  rw [← ew128] at hW
  have hq := hq q122 n127 w128 ew128
  have hc := bw_bud hc h124
  have hs := bw_bud hs h125
  obtain ⟨c129, ec129⟩ : ∃ z : Nat, z = c119 - 1 := ⟨_, rfl⟩
  obtain ⟨s130, es130⟩ : ∃ z : Nat, z = s120 - (61 : Int32).toNatClampNeg := ⟨_, rfl⟩
  rw [← ec129] at hc
  rw [← es130] at hs
  have hq := hq c129 ec129 s130 es130
  generalize hcg : cells + 1 = cells at hc ⊢
  clear hcg
  generalize hsg : slots + (61 : Int32).toNatClampNeg = slots at hs ⊢
  clear hsg
  have t1 : bw_is w128 x0 6 := by rw [ew128]; exact bw_is_new n127 t1
  have t131 : bw_is w128 q122 101 := by rw [ew128]; exact bw_is_self _ _ _ _
  refine bw_putR hx hb ht in_Mo y_Mo yk_Mo nm_Mo hown hK hW rfl t1 (by decide) rfl 17 (by decide) rfl (ht _ m_761) (fun _ h => h) (Or.inr ⟨rfl, hnm, rfl⟩) (bw_nra _ _) (bw_fra _ _) d_Mo_init_112 (fun H locs hW => ?_)
  refine bw_aload_n hx hb d_Mo_init_115 rfl (lv_at hl 0 rfl) ?_
  refine lv_bipush (v := 61) hx hb d_Mo_init_116 (by decide) ?_
  obtain ⟨h133, h136, h134, h135, hq⟩ := hq
  refine bw_newZ C hW m_842 h133 h136 (Nat.le_trans (Nat.add_le_add_left h134 _) hc) (Nat.le_trans (Nat.add_le_add_left h135 _) hs) d_Mo_init_118 (fun q132 H n137 hW => ?_)
  obtain ⟨w138, ew138⟩ : ∃ z : Wd, z = bw_new (sR w128 x0 17 (some q122)) q132 103 (61 : Int32).toNatClampNeg := ⟨_, rfl⟩
  rw [← ew138] at hW
  have hq := hq q132 n137 w138 ew138
  have hc := bw_bud hc h134
  have hs := bw_bud hs h135
  obtain ⟨c139, ec139⟩ : ∃ z : Nat, z = c129 - 1 := ⟨_, rfl⟩
  obtain ⟨s140, es140⟩ : ∃ z : Nat, z = s130 - (61 : Int32).toNatClampNeg := ⟨_, rfl⟩
  rw [← ec139] at hc
  rw [← es140] at hs
  have hq := hq c139 ec139 s140 es140
  generalize hcg : cells + 1 = cells at hc ⊢
  clear hcg
  generalize hsg : slots + (61 : Int32).toNatClampNeg = slots at hs ⊢
  clear hsg
  have t1 : bw_is w138 x0 6 := by rw [ew138]; exact bw_is_new n137 t1
  have t141 : bw_is w138 q132 103 := by rw [ew138]; exact bw_is_self _ _ _ _
  refine bw_putR hx hb ht in_Mo y_Mo yk_Mo nm_Mo hown hK hW rfl t1 (by decide) rfl 18 (by decide) rfl (ht _ m_762) (fun _ h => h) (Or.inr ⟨rfl, hnm, rfl⟩) (bw_nra _ _) (bw_fra _ _) d_Mo_init_120 (fun H locs hW => ?_)
  refine bw_aload_n hx hb d_Mo_init_123 rfl (lv_at hl 0 rfl) ?_
  refine lv_bipush (v := 61) hx hb d_Mo_init_124 (by decide) ?_
  obtain ⟨h143, h146, h144, h145, hq⟩ := hq
  refine bw_newI C hW m_841 h143 h146 (Nat.le_trans (Nat.add_le_add_left h144 _) hc) (Nat.le_trans (Nat.add_le_add_left h145 _) hs) d_Mo_init_126 (fun q142 H n147 hW => ?_)
  obtain ⟨w148, ew148⟩ : ∃ z : Wd, z = bw_new (sR w138 x0 18 (some q132)) q142 101 (61 : Int32).toNatClampNeg := ⟨_, rfl⟩
  rw [← ew148] at hW
  have hq := hq q142 n147 w148 ew148
  have hc := bw_bud hc h144
  have hs := bw_bud hs h145
  obtain ⟨c149, ec149⟩ : ∃ z : Nat, z = c139 - 1 := ⟨_, rfl⟩
  obtain ⟨s150, es150⟩ : ∃ z : Nat, z = s140 - (61 : Int32).toNatClampNeg := ⟨_, rfl⟩
  rw [← ec149] at hc
  rw [← es150] at hs
  have hq := hq c149 ec149 s150 es150
  generalize hcg : cells + 1 = cells at hc ⊢
  clear hcg
  generalize hsg : slots + (61 : Int32).toNatClampNeg = slots at hs ⊢
  clear hsg
  have t1 : bw_is w148 x0 6 := by rw [ew148]; exact bw_is_new n147 t1
  have t151 : bw_is w148 q142 101 := by rw [ew148]; exact bw_is_self _ _ _ _
  refine bw_putR hx hb ht in_Mo y_Mo yk_Mo nm_Mo hown hK hW rfl t1 (by decide) rfl 19 (by decide) rfl (ht _ m_763) (fun _ h => h) (Or.inr ⟨rfl, hnm, rfl⟩) (bw_nra _ _) (bw_fra _ _) d_Mo_init_128 (fun H locs hW => ?_)
  refine bw_aload_n hx hb d_Mo_init_131 rfl (lv_at hl 0 rfl) ?_
  refine lv_bipush (v := 61) hx hb d_Mo_init_132 (by decide) ?_
  obtain ⟨h153, h156, h154, h155, hq⟩ := hq
  refine bw_newI C hW m_841 h153 h156 (Nat.le_trans (Nat.add_le_add_left h154 _) hc) (Nat.le_trans (Nat.add_le_add_left h155 _) hs) d_Mo_init_134 (fun q152 H n157 hW => ?_)
  obtain ⟨w158, ew158⟩ : ∃ z : Wd, z = bw_new (sR w148 x0 19 (some q142)) q152 101 (61 : Int32).toNatClampNeg := ⟨_, rfl⟩
  rw [← ew158] at hW
  have hq := hq q152 n157 w158 ew158
  have hc := bw_bud hc h154
  have hs := bw_bud hs h155
  obtain ⟨c159, ec159⟩ : ∃ z : Nat, z = c149 - 1 := ⟨_, rfl⟩
  obtain ⟨s160, es160⟩ : ∃ z : Nat, z = s150 - (61 : Int32).toNatClampNeg := ⟨_, rfl⟩
  rw [← ec159] at hc
  rw [← es160] at hs
  have hq := hq c159 ec159 s160 es160
  generalize hcg : cells + 1 = cells at hc ⊢
  clear hcg
  generalize hsg : slots + (61 : Int32).toNatClampNeg = slots at hs ⊢
  clear hsg
  have t1 : bw_is w158 x0 6 := by rw [ew158]; exact bw_is_new n157 t1
  have t161 : bw_is w158 q152 101 := by rw [ew158]; exact bw_is_self _ _ _ _
  refine bw_putR hx hb ht in_Mo y_Mo yk_Mo nm_Mo hown hK hW rfl t1 (by decide) rfl 20 (by decide) rfl (ht _ m_764) (fun _ h => h) (Or.inr ⟨rfl, hnm, rfl⟩) (bw_nra _ _) (bw_fra _ _) d_Mo_init_136 (fun H locs hW => ?_)
  refine bw_aload_n hx hb d_Mo_init_139 rfl (lv_at hl 0 rfl) ?_
  refine lv_iconst (v := 4) hx hb d_Mo_init_140 (by decide) ?_
  obtain ⟨h163, h166, h164, h165, hq⟩ := hq
  refine bw_newI C hW m_841 h163 h166 (Nat.le_trans (Nat.add_le_add_left h164 _) hc) (Nat.le_trans (Nat.add_le_add_left h165 _) hs) d_Mo_init_141 (fun q162 H n167 hW => ?_)
  obtain ⟨w168, ew168⟩ : ∃ z : Wd, z = bw_new (sR w158 x0 20 (some q152)) q162 101 (4 : Int32).toNatClampNeg := ⟨_, rfl⟩
  rw [← ew168] at hW
  have hq := hq q162 n167 w168 ew168
  have hc := bw_bud hc h164
  have hs := bw_bud hs h165
  obtain ⟨c169, ec169⟩ : ∃ z : Nat, z = c159 - 1 := ⟨_, rfl⟩
  obtain ⟨s170, es170⟩ : ∃ z : Nat, z = s160 - (4 : Int32).toNatClampNeg := ⟨_, rfl⟩
  rw [← ec169] at hc
  rw [← es170] at hs
  have hq := hq c169 ec169 s170 es170
  generalize hcg : cells + 1 = cells at hc ⊢
  clear hcg
  generalize hsg : slots + (4 : Int32).toNatClampNeg = slots at hs ⊢
  clear hsg
  have t1 : bw_is w168 x0 6 := by rw [ew168]; exact bw_is_new n167 t1
  have t171 : bw_is w168 q162 101 := by rw [ew168]; exact bw_is_self _ _ _ _
  refine bw_putR hx hb ht in_Mo y_Mo yk_Mo nm_Mo hown hK hW rfl t1 (by decide) rfl 22 (by decide) rfl (ht _ m_766) (fun _ h => h) (Or.inr ⟨rfl, hnm, rfl⟩) (bw_nra _ _) (bw_fra _ _) d_Mo_init_143 (fun H locs hW => ?_)
  refine bw_aload_n hx hb d_Mo_init_146 rfl (lv_at hl 0 rfl) ?_
  refine lv_iconst (v := 4) hx hb d_Mo_init_147 (by decide) ?_
  obtain ⟨h173, h176, h174, h175, hq⟩ := hq
  refine bw_newI C hW m_841 h173 h176 (Nat.le_trans (Nat.add_le_add_left h174 _) hc) (Nat.le_trans (Nat.add_le_add_left h175 _) hs) d_Mo_init_148 (fun q172 H n177 hW => ?_)
  obtain ⟨w178, ew178⟩ : ∃ z : Wd, z = bw_new (sR w168 x0 22 (some q162)) q172 101 (4 : Int32).toNatClampNeg := ⟨_, rfl⟩
  rw [← ew178] at hW
  have hq := hq q172 n177 w178 ew178
  have hc := bw_bud hc h174
  have hs := bw_bud hs h175
  obtain ⟨c179, ec179⟩ : ∃ z : Nat, z = c169 - 1 := ⟨_, rfl⟩
  obtain ⟨s180, es180⟩ : ∃ z : Nat, z = s170 - (4 : Int32).toNatClampNeg := ⟨_, rfl⟩
  rw [← ec179] at hc
  rw [← es180] at hs
  have hq := hq c179 ec179 s180 es180
  generalize hcg : cells + 1 = cells at hc ⊢
  clear hcg
  generalize hsg : slots + (4 : Int32).toNatClampNeg = slots at hs ⊢
  clear hsg
  have t1 : bw_is w178 x0 6 := by rw [ew178]; exact bw_is_new n177 t1
  have t181 : bw_is w178 q172 101 := by rw [ew178]; exact bw_is_self _ _ _ _
  refine bw_putR hx hb ht in_Mo y_Mo yk_Mo nm_Mo hown hK hW rfl t1 (by decide) rfl 23 (by decide) rfl (ht _ m_767) (fun _ h => h) (Or.inr ⟨rfl, hnm, rfl⟩) (bw_nra _ _) (bw_fra _ _) d_Mo_init_150 (fun H locs hW => ?_)
  refine bw_aload_n hx hb d_Mo_init_153 rfl (lv_at hl 0 rfl) ?_
  refine lv_iconst (v := 4) hx hb d_Mo_init_154 (by decide) ?_
  obtain ⟨h183, h186, h184, h185, hq⟩ := hq
  refine bw_newI C hW m_841 h183 h186 (Nat.le_trans (Nat.add_le_add_left h184 _) hc) (Nat.le_trans (Nat.add_le_add_left h185 _) hs) d_Mo_init_155 (fun q182 H n187 hW => ?_)
  obtain ⟨w188, ew188⟩ : ∃ z : Wd, z = bw_new (sR w178 x0 23 (some q172)) q182 101 (4 : Int32).toNatClampNeg := ⟨_, rfl⟩
  rw [← ew188] at hW
  have hq := hq q182 n187 w188 ew188
  have hc := bw_bud hc h184
  have hs := bw_bud hs h185
  obtain ⟨c189, ec189⟩ : ∃ z : Nat, z = c179 - 1 := ⟨_, rfl⟩
  obtain ⟨s190, es190⟩ : ∃ z : Nat, z = s180 - (4 : Int32).toNatClampNeg := ⟨_, rfl⟩
  rw [← ec189] at hc
  rw [← es190] at hs
  have hq := hq c189 ec189 s190 es190
  generalize hcg : cells + 1 = cells at hc ⊢
  clear hcg
  generalize hsg : slots + (4 : Int32).toNatClampNeg = slots at hs ⊢
  clear hsg
  have t1 : bw_is w188 x0 6 := by rw [ew188]; exact bw_is_new n187 t1
  have t191 : bw_is w188 q182 101 := by rw [ew188]; exact bw_is_self _ _ _ _
  refine bw_putR hx hb ht in_Mo y_Mo yk_Mo nm_Mo hown hK hW rfl t1 (by decide) rfl 24 (by decide) rfl (ht _ m_768) (fun _ h => h) (Or.inr ⟨rfl, hnm, rfl⟩) (bw_nra _ _) (bw_fra _ _) d_Mo_init_157 (fun H locs hW => ?_)
  refine bw_aload_n hx hb d_Mo_init_160 rfl (lv_at hl 0 rfl) ?_
  refine lv_sipush (v := 3000) hx hb d_Mo_init_161 (by decide) ?_
  obtain ⟨h193, h196, h194, h195, hq⟩ := hq
  refine bw_newJ C hW m_843 h193 h196 (Nat.le_trans (Nat.add_le_add_left h194 _) hc) (Nat.le_trans (Nat.add_le_add_left h195 _) hs) d_Mo_init_164 (fun q192 H n197 hW => ?_)
  obtain ⟨w198, ew198⟩ : ∃ z : Wd, z = bw_new (sR w188 x0 24 (some q182)) q192 102 (3000 : Int32).toNatClampNeg := ⟨_, rfl⟩
  rw [← ew198] at hW
  have hq := hq q192 n197 w198 ew198
  have hc := bw_bud hc h194
  have hs := bw_bud hs h195
  obtain ⟨c199, ec199⟩ : ∃ z : Nat, z = c189 - 1 := ⟨_, rfl⟩
  obtain ⟨s200, es200⟩ : ∃ z : Nat, z = s190 - (3000 : Int32).toNatClampNeg := ⟨_, rfl⟩
  rw [← ec199] at hc
  rw [← es200] at hs
  have hq := hq c199 ec199 s200 es200
  generalize hcg : cells + 1 = cells at hc ⊢
  clear hcg
  generalize hsg : slots + (3000 : Int32).toNatClampNeg = slots at hs ⊢
  clear hsg
  have t1 : bw_is w198 x0 6 := by rw [ew198]; exact bw_is_new n197 t1
  have t201 : bw_is w198 q192 102 := by rw [ew198]; exact bw_is_self _ _ _ _
  refine bw_putR hx hb ht in_Mo y_Mo yk_Mo nm_Mo hown hK hW rfl t1 (by decide) rfl 26 (by decide) rfl (ht _ m_770) (fun _ h => h) (Or.inr ⟨rfl, hnm, rfl⟩) (bw_nra _ _) (bw_fra _ _) d_Mo_init_166 (fun H locs hW => ?_)
  refine bw_aload_n hx hb d_Mo_init_169 rfl (lv_at hl 0 rfl) ?_
  refine lv_sipush (v := 6000) hx hb d_Mo_init_170 (by decide) ?_
  obtain ⟨h203, h206, h204, h205, hq⟩ := hq
  refine bw_newJ C hW m_843 h203 h206 (Nat.le_trans (Nat.add_le_add_left h204 _) hc) (Nat.le_trans (Nat.add_le_add_left h205 _) hs) d_Mo_init_173 (fun q202 H n207 hW => ?_)
  obtain ⟨w208, ew208⟩ : ∃ z : Wd, z = bw_new (sR w198 x0 26 (some q192)) q202 102 (6000 : Int32).toNatClampNeg := ⟨_, rfl⟩
  rw [← ew208] at hW
  have hq := hq q202 n207 w208 ew208
  have hc := bw_bud hc h204
  have hs := bw_bud hs h205
  obtain ⟨c209, ec209⟩ : ∃ z : Nat, z = c199 - 1 := ⟨_, rfl⟩
  obtain ⟨s210, es210⟩ : ∃ z : Nat, z = s200 - (6000 : Int32).toNatClampNeg := ⟨_, rfl⟩
  rw [← ec209] at hc
  rw [← es210] at hs
  have hq := hq c209 ec209 s210 es210
  generalize hcg : cells + 1 = cells at hc ⊢
  clear hcg
  generalize hsg : slots + (6000 : Int32).toNatClampNeg = slots at hs ⊢
  clear hsg
  have t1 : bw_is w208 x0 6 := by rw [ew208]; exact bw_is_new n207 t1
  have t211 : bw_is w208 q202 102 := by rw [ew208]; exact bw_is_self _ _ _ _
  refine bw_putR hx hb ht in_Mo y_Mo yk_Mo nm_Mo hown hK hW rfl t1 (by decide) rfl 28 (by decide) rfl (ht _ m_772) (fun _ h => h) (Or.inr ⟨rfl, hnm, rfl⟩) (bw_nra _ _) (bw_fra _ _) d_Mo_init_175 (fun H locs hW => ?_)
  refine bw_aload_n hx hb d_Mo_init_178 rfl (lv_at hl 0 rfl) ?_
  refine lv_bipush (v := 60) hx hb d_Mo_init_179 (by decide) ?_
  obtain ⟨h213, h216, h214, h215, hq⟩ := hq
  refine bw_newI C hW m_841 h213 h216 (Nat.le_trans (Nat.add_le_add_left h214 _) hc) (Nat.le_trans (Nat.add_le_add_left h215 _) hs) d_Mo_init_181 (fun q212 H n217 hW => ?_)
  obtain ⟨w218, ew218⟩ : ∃ z : Wd, z = bw_new (sR w208 x0 28 (some q202)) q212 101 (60 : Int32).toNatClampNeg := ⟨_, rfl⟩
  rw [← ew218] at hW
  have hq := hq q212 n217 w218 ew218
  have hc := bw_bud hc h214
  have hs := bw_bud hs h215
  obtain ⟨c219, ec219⟩ : ∃ z : Nat, z = c209 - 1 := ⟨_, rfl⟩
  obtain ⟨s220, es220⟩ : ∃ z : Nat, z = s210 - (60 : Int32).toNatClampNeg := ⟨_, rfl⟩
  rw [← ec219] at hc
  rw [← es220] at hs
  have hq := hq c219 ec219 s220 es220
  generalize hcg : cells + 1 = cells at hc ⊢
  clear hcg
  generalize hsg : slots + (60 : Int32).toNatClampNeg = slots at hs ⊢
  clear hsg
  have t1 : bw_is w218 x0 6 := by rw [ew218]; exact bw_is_new n217 t1
  have t221 : bw_is w218 q212 101 := by rw [ew218]; exact bw_is_self _ _ _ _
  refine bw_putR hx hb ht in_Mo y_Mo yk_Mo nm_Mo hown hK hW rfl t1 (by decide) rfl 31 (by decide) rfl (ht _ m_775) (fun _ h => h) (Or.inr ⟨rfl, hnm, rfl⟩) (bw_nra _ _) (bw_fra _ _) d_Mo_init_183 (fun H locs hW => ?_)
  exact bw_vret C hW ⟨rfl, hq⟩ d_Mo_init_186 (Nat.le_trans (Nat.le_add_right _ _) hc) (Nat.le_trans (Nat.le_add_right _ _) hs)
theorem ci_Mo_init : CI n_Mo_init b_Mo_init 1 none 0 := ⟨m_742, m_5, by decide, by decide, by decide +kernel⟩
theorem c_Mo_init {l : Launch} {D : va_G} {AC : Nat → ClassId} {e0 mi : Nat} {Q : Wd → Prop} (hl0 : l.stackTraces = false) (x0 : Nat) (w : Wd) (nc ns : Nat) (hq : wp_Mo_init e0 mi x0 w nc ns Q) : Ct l D AC e0 mi n_Mo_init (wy n_Mo_init b_Mo_init 1 none) 1 40 [va_rf (some x0)] w nc ns (fun v w9 => v = none ∧ Q w9) (fun _ _ => False) :=
  Ct.of hl0 (by decide) (by simp [lg_sl, bw_cat, cat_i, cat_j]) (fun p e s m args below meth c A ls C hW hl => k_Mo_init_0 C x0 w nc ns hq s.heap [] 0 0 ls hW (by simpa [lv_args, bw_cat, cat_i, cat_j] using hl) (Nat.le_of_eq (Nat.zero_add _)) (Nat.le_of_eq (Nat.zero_add _)))
