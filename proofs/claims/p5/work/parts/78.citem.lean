/-! CALLS OF THE CLASS: a new item -/
def item1 (S : St) (l : Int32) : St := uT (um (um (um S 16 (nT S + 1) l) 13 (nT S + 1) 0) 20 (nT S + 1) (mm S 1 0)) (nT S + 1)
def itemS (S : St) (b : Nat) (l : Int32) : St := comeS (item1 S l) (nT S + 1) b
theorem mm_item1 (S : St) (l : Int32) {k : Nat} (h : k ≠ 16 ∧ k ≠ 13 ∧ k ≠ 20) : mm (item1 S l) k = mm S k := by
  unfold item1
  rw [mm_uT, mm_um_ne _ _ _ h.2.2, mm_um_ne _ _ _ h.2.1, mm_um_ne _ _ _ h.1]
theorem mm16_item1 (S : St) (l : Int32) (a : Nat) : mm (item1 S l) 16 a = if a = nT S + 1 then l else mm S 16 a := by
  unfold item1
  rw [mm_uT, mm_um_ne _ _ _ (by decide), mm_um_ne _ _ _ (by decide), mm_um]
  by_cases h : a = nT S + 1
  · rw [if_pos ⟨rfl, h⟩, if_pos h]
  · rw [if_neg (fun z => h z.2), if_neg h]
theorem mm13_item1 (S : St) (l : Int32) (a : Nat) : mm (item1 S l) 13 a = if a = nT S + 1 then 0 else mm S 13 a := by
  unfold item1
  rw [mm_uT, mm_um_ne _ _ _ (by decide), mm_um]
  by_cases h : a = nT S + 1
  · rw [if_pos ⟨rfl, h⟩, if_pos h]
  · rw [if_neg (fun z => h z.2), if_neg h, mm_um_ne _ _ _ (by decide)]
theorem mm20_item1 (S : St) (l : Int32) (a : Nat) : mm (item1 S l) 20 a = if a = nT S + 1 then mm S 1 0 else mm S 20 a := by
  unfold item1
  rw [mm_uT, mm_um]
  by_cases h : a = nT S + 1
  · rw [if_pos ⟨rfl, h⟩, if_pos h]
  · rw [if_neg (fun z => h z.2), if_neg h, mm_um_ne _ _ _ (by decide), mm_um_ne _ _ _ (by decide)]
section CL
variable {e0 mi q : Nat} {P : Nat → Nat → Nat} {S : St} {w : Wd} {LE LW : List (Nat × Ed)}
theorem C_itInit {x : Nat} {v0 v1 v2 : Int32} {Q : Wd → Prop} (ix : bw_is w x 2) (hQ : ∀ u, (wL u = wL w ∧ wK u = wK w) → Kp (fun a => a = x) w u → wI u x 0 = v0 → wI u x 1 = v1 → wI u x 2 = v2 → wI u x 6 = 0 → Q u) : wp_It_init e0 mi x v0 v1 v2 w Q := by
  unfold wp_It_init
  refine ⟨ix, hQ _ ⟨?_, ?_⟩ ?_ ?_ ?_ ?_ ?_⟩
  · rw [pL_I, pL_I, pL_I, pL_I, pL_I, pL_R, pL_R, pL_R, pL_I, pL_I, pL_I]
  · rw [pK_I, pK_I, pK_I, pK_I, pK_I, pK_R, pK_R, pK_R, pK_I, pK_I, pK_I]
  · exact (((((((((((Kp.rfl (X := fun a => a = x)).sI (fun _ => rfl)).sI (fun _ => rfl)).sI (fun _ => rfl)).sR (fun _ => rfl)).sR (fun _ => rfl)).sR (fun _ => rfl)).sI (fun _ => rfl)).sI (fun _ => rfl)).sI (fun _ => rfl)).sI (fun _ => rfl)).sI (fun _ => rfl)
  · rw [pI_I, if_neg (fun u => by simp at u), pI_I, if_neg (fun u => by simp at u), pI_I, if_neg (fun u => by simp at u), pI_I, if_neg (fun u => by simp at u), pI_I, if_neg (fun u => by simp at u), pI_R, pI_R, pI_R, pI_I, if_neg (fun u => by simp at u), pI_I, if_neg (fun u => by simp at u), pI_I, if_pos ⟨rfl, rfl⟩]
  · rw [pI_I, if_neg (fun u => by simp at u), pI_I, if_neg (fun u => by simp at u), pI_I, if_neg (fun u => by simp at u), pI_I, if_neg (fun u => by simp at u), pI_I, if_neg (fun u => by simp at u), pI_R, pI_R, pI_R, pI_I, if_neg (fun u => by simp at u), pI_I, if_pos ⟨rfl, rfl⟩]
  · rw [pI_I, if_neg (fun u => by simp at u), pI_I, if_neg (fun u => by simp at u), pI_I, if_neg (fun u => by simp at u), pI_I, if_neg (fun u => by simp at u), pI_I, if_neg (fun u => by simp at u), pI_R, pI_R, pI_R, pI_I, if_pos ⟨rfl, rfl⟩]
  · rw [pI_I, if_neg (fun u => by simp at u), pI_I, if_neg (fun u => by simp at u), pI_I, if_neg (fun u => by simp at u), pI_I, if_neg (fun u => by simp at u), pI_I, if_pos ⟨rfl, rfl⟩]
theorem C_newItem {x d' b : Nat} {w' : Wd} {l : Int32} {Q : Wd → Prop} (R : RC e0 S w q P LE LW) (hS : okS S) (hb : b < nB S) (hx : ∀ i, 1 ≤ i → i ≤ nT S → P 1 i ≠ x) (i0 : bw_is w x 2) (i1 : wI w x 0 = nI (nT S + 1)) (i2' : wI w x 1 = l) (i3 : wI w x 2 = mm S 1 0) (i4 : wI w x 6 = 0)
    (hK : isK e0 w' (P 6 1) d' (nT S + 1) ((List.range (nT S)).map (fun i => P 1 (i + 1)) ++ [x])) (hd : (d' = P 7 1 ∧ 0 < nT S) ∨ d' ∉ wL w) (K : Kp (fun u => u = P 6 1 ∨ (0 < nT S ∧ u = P 7 1)) w w')
    (hQ : ∀ w'' P', RC e0 (itemS S b l) w'' q P' LE LW → FrC w w'' → bw_is w'' x 2 → wI w'' x 0 = nI (nT S + 1) → Q w'') : wp_Bt_takeOn e0 mi (P 0 b) (some x) w' Q := by
  have hb8 := hS.1.1
  have R1 : RC e0 S w q (P1x P 1 (nT S + 1) x) LE LW := RC_ext R hS (fun b _ => by rw [P1x_o P 1 _ x (by decide)]) (fun i _ h2 => P1x_ne P 1 _ x (by omega)) (fun k _ => by rw [P1x_o P 1 _ x (by decide)]) (fun s _ => by rw [P1x_o P 1 _ x (by decide)]) (P1x_o P 1 _ x (by decide)) (P1x_o P 1 _ x (by decide))
  have P6 : P1x P 1 (nT S + 1) x 6 = P 6 := P1x_o P 1 _ x (by decide)
  have P7 : P1x P 1 (nT S + 1) x 7 = P 7 := P1x_o P 1 _ x (by decide)
  have P0 : P1x P 1 (nT S + 1) x 0 = P 0 := P1x_o P 1 _ x (by decide)
  have gk := R.2.1.1 1 (by decide)
  have kN : ∀ ci, ci ≠ 7 → ci ≠ 100 → ∀ a, bw_is w a ci → ¬ (a = P 6 1 ∨ (0 < nT S ∧ a = P 7 1)) := fun ci c7' c100 a ha u => by
    rcases u with u | ⟨u1, u2⟩
    · exact absurd u (is_ne ha gk.1 c7')
    · exact absurd u2 (is_ne ha (gk.2.2.2.2.2.2 u1).2.1 c100)
  have hxX := kN 2 (by decide) (by decide) x i0
  have F1 : FrC w w' := K.frC (fun a ha hu => by
    rcases hu with u | ⟨u1, u2⟩
    · rw [u, gk.1.2]; unfold kM; omega
    · rw [u2, (gk.2.2.2.2.2.2 u1).2.1.2]; unfold kM; omega)
  obtain ⟨r1, r2, r3, r4, r5, r6, r7, r8⟩ := R1
  have e1 := c1_kp r1 K (kN 5 (by decide) (by decide))
  have e3 := c3_kp r3 K (kN 0 (by decide) (by decide))
  have e4 := c4_kp r4 K (kN 4 (by decide) (by decide))
  have e5 := c5_kp r5 K (kN 2 (by decide) (by decide))
  have e6 := c6_kp r6 r5 hS K (kN 2 (by decide) (by decide))
  have e7 := c7_kp r7 K (kN 3 (by decide) (by decide))
  have e8 := c8_kp r8 K (kN 1 (by decide) (by decide))
  have em : ∀ k, k ≠ 16 ∧ k ≠ 13 ∧ k ≠ 20 → mm (item1 S l) k = mm S k := fun k hk => mm_item1 S l hk
  have c2n : c2 e0 (item1 S l) w' (Pn (P1x P 1 (nT S + 1) x) 1 d') LE LW := c2_add (S' := item1 S l) (LE' := LE) (LW' := LW) r2 (k := 1) (by decide) (by rw [P6]; exact hK) (by rw [P7]; exact hd) (by rw [P6, P7]; exact K) (fun j hj hjk => by
    match j, hj, hjk with
    | 0, _, _ => rfl
    | 1, _, h => exact absurd rfl h
    | 2, _, _ => rfl
    | 3, _, _ => rfl
    | 4, _, _ => rfl
    | 5, _, _ => rfl) rfl (fun j hj hjk => by
    match j, hj, hjk with
    | 0, _, _ => rfl
    | 1, _, h => exact absurd rfl h
    | 2, _, _ => rfl
    | 3, _, _ => rfl
    | 4, _, _ => rfl
    | 5, _, _ => rfl) (by
    show (List.range (nT S + 1)).map (fun i => P1x P 1 (nT S + 1) x 1 (i + 1)) = _
    rw [List.range_succ, List.map_append]
    congr 1
    · exact List.map_congr_left (fun i hi => P1x_ne P 1 _ x (by have := List.mem_range.mp hi; omega))
    · show [P1x P 1 (nT S + 1) x 1 (nT S + 1)] = [x]
      rw [P1x_at])
  have c3n : c3 (item1 S l) w' (Pn (P1x P 1 (nT S + 1) x) 1 d') := P_eq_c3 (by unfold c3 at *; rw [em 4 (by decide), em 5 (by decide), em 6 (by decide)]; exact e3)
  have c5n : c5x (item1 S l) w' (Pn (P1x P 1 (nT S + 1) x) 1 d') (nT S + 1) := by
    have hP1 : Pn (P1x P 1 (nT S + 1) x) 1 d' 1 = P1x P 1 (nT S + 1) x 1 := Pn_o _ _ _ (by decide)
    have hP0 : Pn (P1x P 1 (nT S + 1) x) 1 d' 0 = P1x P 1 (nT S + 1) x 0 := Pn_o _ _ _ (by decide)
    unfold c5x
    rw [hP1, hP0]
    refine ⟨fun j j1 j2 => ?_, fun a j a1 a2 j1 j2 hu => ?_⟩
    · replace j2 : j ≤ nT S + 1 := j2
      rw [mm16_item1, mm13_item1, mm20_item1, em 14 (by decide), em 15 (by decide), em 17 (by decide), em 18 (by decide), em 19 (by decide)]
      by_cases hj : j = nT S + 1
      · subst hj
        rw [if_pos rfl, if_pos rfl, if_pos rfl, P1x_at, K.I i0.1 hxX]
        exact ⟨K.is i0, i1, i2', i3, i4, fun u => absurd rfl u⟩
      · rw [if_neg hj, if_neg hj, if_neg hj]
        obtain ⟨q0, q1, q2, q3, q4, q5, q6⟩ := e5.1 j j1 (by omega)
        exact ⟨q0, q1, q2, q3, q4, fun _ => ⟨q5, q6⟩⟩
    · replace a2 : a ≤ nT S + 1 := a2
      replace j2 : j ≤ nT S + 1 := j2
      by_cases ha : a = nT S + 1
      · by_cases hj : j = nT S + 1
        · omega
        · rw [ha, P1x_at, P1x_ne P 1 _ x hj] at hu
          exact absurd hu.symm (hx j j1 (by omega))
      · by_cases hj : j = nT S + 1
        · rw [hj, P1x_at, P1x_ne P 1 _ x ha] at hu
          exact absurd hu (hx a a1 (by omega))
        · exact e5.2 a j a1 (by omega) j1 (by omega) hu
  have eP0 : P 0 b = Pn (P1x P 1 (nT S + 1) x) 1 d' 0 b := by rw [Pn_o _ _ _ (show (0 : Nat) ≠ 7 by decide), P0]
  have eP1 : x = Pn (P1x P 1 (nT S + 1) x) 1 d' 1 (nT S + 1) := by rw [Pn_o _ _ _ (show (1 : Nat) ≠ 7 by decide), P1x_at]
  have G := C_take (e0 := e0) (mi := mi) (q := q) (P := Pn (P1x P 1 (nT S + 1) x) 1 d') (S := item1 S l) (w := w') (LE := LE) (LW := LW) (b := b) (i := nT S + 1) (Q := Q) (P_eq_c1 (c1_eq e1 (em 1 (by decide)) (em 2 (by decide)) (em 30 (by decide)))) c2n c3n (P_eq_c4 (c4_eq e4 rfl (em 7 (by decide)) (em 8 (by decide)) (em 9 (by decide)))) c5n (P_eq_c6 e6) (P_eq_c7 (c7_eq e7 rfl rfl (em 22 (by decide)) (em 23 (by decide)) (em 24 (by decide)))) (c8_eq e8 rfl rfl) (fun c j hj => ?_) (hS.2.2.2.1 b) (fun c hc j hj hj2 => hc (ok_row hS hj hj2)) hb hb8 (by omega) (Nat.le_refl _) (fun w'' R'' F'' _ => ?_)
  · rw [← eP0, ← eP1] at G
    exact G
  · have hj' := in_row hS (show j ∈ rr S c from hj)
    exact ⟨hj'.2.1, by show j ≤ nT S + 1; omega, by omega⟩
  · have h5 := R''.2.2.2.2.1.1 (nT S + 1) (by omega) (Nat.le_refl _)
    rw [← eP1] at h5
    exact hQ w'' _ R'' (F1.trans F'') h5.1 h5.2.1
theorem B_item {x1 x2 : Int32} {nc ns : Nat} {Q : Int32 → Wd → Prop} {X : String → Wd → Prop} (R : RC e0 S w q P LE LW) (hS : okS S) (hc : 4 + gC (nT S) (nT S) ≤ nc) (hs : 30 + gS (nT S) (nT S) ≤ ns) (h1 : ¬ (∃ b, b < nB S ∧ x1 = nI b) → X "java/util/NoSuchElementException" w)
    (h2 : (∃ b, b < nB S ∧ x1 = nI b) → ¬ rng x2 1 2000 → X "java/lang/IllegalArgumentException" w) (h3 : (∃ b, b < nB S ∧ x1 = nI b) → rng x2 1 2000 → nT S = 60 → X "java/lang/UnsupportedOperationException" w)
    (h4 : ∀ b, b < nB S → x1 = nI b → rng x2 1 2000 → nT S < 60 → (0 : Int32) < missS S b → Q (-(missS S b)) w)
    (h0 : ∀ b, b < nB S → x1 = nI b → rng x2 1 2000 → nT S < 60 → ¬ (0 : Int32) < missS S b → ∀ w' P', RC e0 (itemS S b x2) w' q P' LE LW → FrC w w' → Q (nI (nT S + 1)) w') : wp_Br_item e0 mi q x1 x2 w nc ns Q X := by
  have hT := hS.1.2.1
  unfold wp_Br_item
  refine ⟨R.1.1, 1, 6, by omega, by omega, C_fb R hS (fun z => ⟨Nat.le_refl _, Nat.le_refl _, h1 z⟩) (fun b hb hx => ⟨1, 6, by omega, by omega, ck_ok (fun z => ⟨Nat.le_refl _, Nat.le_refl _, h2 ⟨b, hb, hx⟩ z⟩) (fun z1 => ⟨R.1.1, C_size R (k := 1) (by decide) ?_⟩)⟩)⟩
  rw [lsx1]
  refine ⟨fun z => ⟨R.1.1, C_missing R hS hb ⟨fun z2 => ⟨by omega, by omega, fun x hx' w40 e40 => ?_⟩, fun z2 => ?_⟩⟩, fun z => ⟨by omega, by omega, h3 ⟨b, hb, hx⟩ z1 ?_⟩⟩
  · have hn60 : nT S < 60 := by
      rcases Nat.lt_or_ge (nT S) 60 with u | u
      · exact u
      · exact absurd z (nI_nlt (b := 60) u (by omega))
    have ix : bw_is w40 x 2 := by rw [e40]; exact bw_is_self _ x 2 0
    have K0 : Kp (fun _ => False) w w40 := by rw [e40]; exact Kp.rfl.new hx'
    have R0 := RC_kp R hS K0 (fun a ci ha u => False.elim u)
    refine ⟨R0.1.1, C_size R0 (k := 1) (by decide) ?_⟩
    rw [lsx1]
    refine ⟨R0.1.1, ix, ?_⟩
    rw [R0.1.2.2.1, nI_1]
    refine C_itInit ix (fun w55 hL K1 f0 f1 f2 f6 => ?_)
    have K2 : Kp (fun _ => False) w w55 := ((K0.mono (fun _ _ u => u.elim)).trans K1).mono (fun a ha u => hx' (u ▸ ha))
    have R2 := RC_kp R hS K2 (fun a ci ha u => False.elim u)
    have ix2 : bw_is w55 x 2 := is_eq hL.1 hL.2 ix
    have hK0 : isK e0 w55 (P 6 1) (P 7 1) (nT S) ((List.range (nT S)).map (fun i => P 1 (i + 1))) := R2.2.1.1 1 (by decide)
    have hlen : ((List.range (nT S)).map (fun i => P 1 (i + 1))).length = nT S := by simp
    refine ⟨R2.1.1, P 6 1, R2.1.2.2.2.2 1 (by decide), hK0.1, gC (nT S) (nT S), gS (nT S) (nT S), by omega, by omega, isK_add hK0 ⟨2, ix2, by decide, by decide⟩ (by omega) (by rw [hlen]; exact Nat.le_refl _) (by rw [hlen]; exact Nat.le_refl _) (fun w' d' hK hd K => ?_)⟩
    rw [hlen, Nat.max_eq_right (by omega)] at hK
    have hb' : bw_is w' (P 0 b) 0 := K.is (R2.2.2.1.1 b hb).1
    refine ⟨P 0 b, rfl, hb', C_newItem R2 hS hb (fun i i1 i2' u => hx' (u ▸ (R.2.2.2.2.1.1 i i1 i2').1.1)) ix2 f0 f1 f2 f6 hK hd K (fun w'' P' R'' F'' g0 g1 => ⟨g0, ?_⟩)⟩
    rw [g1]
    exact h0 b hb hx z1 hn60 ((missC_le S b).mp z2) w'' P' R'' ((K2.frC (fun a ha u => False.elim u)).trans F'')
  · have hn60 : nT S < 60 := by
      rcases Nat.lt_or_ge (nT S) 60 with u | u
      · exact u
      · exact absurd z (nI_nlt (b := 60) u (by omega))
    have hm : (0 : Int32) < missS S b := by
      by_cases h : (0 : Int32) < missS S b
      · exact h
      · exact absurd ((missC_le S b).mpr h) z2
    have := h4 b hb hx z1 hn60 hm
    unfold missC
    rw [if_pos hm]; exact this
  · rcases Nat.lt_or_ge (nT S) 60 with u | u
    · exact absurd (nI_lt (b := 60) u (by omega)) z
    · omega
end CL
