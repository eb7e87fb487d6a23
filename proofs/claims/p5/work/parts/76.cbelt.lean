/-! CALLS OF THE CLASS: a new belt, put into its list -/
theorem Pb_0 (P : Nat → Nat → Nat) (n x y z : Nat) : Pb P n x y z 0 n = x := by unfold Pb; rw [if_pos ⟨rfl, rfl⟩]
theorem Pb_0o (P : Nat → Nat → Nat) (n x y z : Nat) {b : Nat} (h : b ≠ n) : Pb P n x y z 0 b = P 0 b := by
  unfold Pb; rw [if_neg (fun u => h u.2), if_neg (fun u => absurd u.1 (by decide)), if_neg (fun u => absurd u.1 (by decide))]
theorem Pb_2a (P : Nat → Nat → Nat) (n x y z : Nat) : Pb P n x y z 2 (2 * n) = y := by
  unfold Pb; rw [if_neg (fun u => absurd u.1 (by decide)), if_pos ⟨rfl, rfl⟩]
theorem Pb_2b (P : Nat → Nat → Nat) (n x y z : Nat) : Pb P n x y z 2 (2 * n + 1) = z := by
  unfold Pb; rw [if_neg (fun u => absurd u.1 (by decide)), if_neg (fun u => by omega), if_pos ⟨rfl, rfl⟩]
theorem Pb_2o (P : Nat → Nat → Nat) (n x y z : Nat) {k : Nat} (h : k < 2 * n) : Pb P n x y z 2 k = P 2 k := by
  unfold Pb; rw [if_neg (fun u => absurd u.1 (by decide)), if_neg (fun u => by omega), if_neg (fun u => by omega)]
theorem Pb_o (P : Nat → Nat → Nat) (n x y z : Nat) {a : Nat} (h0 : a ≠ 0) (h2 : a ≠ 2) : Pb P n x y z a = P a := by
  funext j; unfold Pb; rw [if_neg (fun u => h0 u.1), if_neg (fun u => h2 u.1), if_neg (fun u => h2 u.1)]
theorem RC_belt {e0 q x y z d' : Nat} {S : St} {w w' : Wd} {P : Nat → Nat → Nat} {LE LW : List (Nat × Ed)} {l v : Int32} (R : RC e0 S w q P LE LW) (hS : okS S) (h9 : ok9 S) (hN : newB w x y z (nI (nB S)) l v) (hx : ∀ b, b < nB S → P 0 b ≠ x) (hy : ∀ k, k < 2 * nB S → P 2 k ≠ y) (hz : ∀ k, k < 2 * nB S → P 2 k ≠ z) (hyz : y ≠ z)
    (hK : isK e0 w' (P 6 0) d' (nB S + 1) ((List.range (nB S)).map (P 0) ++ [x])) (hd : (d' = P 7 0 ∧ 0 < nB S) ∨ d' ∉ wL w) (K : Kp (fun u => u = P 6 0 ∨ (0 < nB S ∧ u = P 7 0)) w w') : RC e0 (beltS S l v) w' q (Pn (Pb P (nB S) x y z) 0 d') LE LW ∧ FrC w w' := by
  have hb8 := hS.1.1
  have R1 : RC e0 S w q (Pb P (nB S) x y z) LE LW := RC_ext R hS (fun b hb => Pb_0o P _ x y z (by omega)) (fun i _ _ => by rw [Pb_o P _ x y z (by decide) (by decide)]) (fun k hk => Pb_2o P _ x y z hk) (fun s _ => by rw [Pb_o P _ x y z (by decide) (by decide)]) (Pb_o P _ x y z (by decide) (by decide)) (Pb_o P _ x y z (by decide) (by decide))
  have P6 : Pb P (nB S) x y z 6 = P 6 := Pb_o P _ x y z (by decide) (by decide)
  have P7 : Pb P (nB S) x y z 7 = P 7 := Pb_o P _ x y z (by decide) (by decide)
  have gk := R.2.1.1 0 (by decide)
  have kN : ∀ ci, ci ≠ 7 → ci ≠ 100 → ∀ a, bw_is w a ci → ¬ (a = P 6 0 ∨ (0 < nB S ∧ a = P 7 0)) := fun ci c7' c100 a ha u => by
    rcases u with u | ⟨u1, u2⟩
    · exact absurd u (is_ne ha gk.1 c7')
    · exact absurd u2 (is_ne ha (gk.2.2.2.2.2.2 u1).2.1 c100)
  have hN' := newB_kp hN K (kN 0 (by decide) (by decide) x hN.1) (kN 4 (by decide) (by decide) y hN.2.2.2.2.2.2.2.2.2.2.1) (kN 4 (by decide) (by decide) z hN.2.2.2.2.2.2.2.2.2.2.2.2.2.2.1)
  obtain ⟨r1, r2, r3, r4, r5, r6, r7, r8⟩ := R1
  have e1 := c1_kp r1 K (kN 5 (by decide) (by decide))
  have e3 := c3_kp r3 K (kN 0 (by decide) (by decide))
  have e4 := c4_kp r4 K (kN 4 (by decide) (by decide))
  have e5 := c5_kp r5 K (kN 2 (by decide) (by decide))
  have e6 := c6_kp r6 r5 hS K (kN 2 (by decide) (by decide))
  have e7 := c7_kp r7 K (kN 3 (by decide) (by decide))
  have e8 := c8_kp r8 K (kN 1 (by decide) (by decide))
  have em : ∀ k, k ≠ 4 ∧ k ≠ 5 ∧ k ≠ 6 ∧ k ≠ 7 → mm (beltS S l v) k = mm S k := fun k hk => mm_belt S l v hk
  obtain ⟨b0, b1, b2, b3, b4, b5, b6, b7, b8, b9, y0, y1, y2, y3, z0, z1, z2, z3⟩ := hN'
  have rn : rr S (nB S) = [] := hS.2.1 (nB S) (Nat.le_refl _)
  refine ⟨⟨P_eq_c1 (c1_eq e1 (em 1 (by decide)) (em 2 (by decide)) (em 30 (by decide))), c2_add (S' := beltS S l v) (LE' := LE) (LW' := LW) r2 (k := 0) (by decide) (by rw [P6]; exact hK) (by rw [P7]; exact hd) (by rw [P6, P7]; exact K) (fun j hj hjk => ?_) rfl (fun j hj hjk => ?_) ?_, P_eq_c3 ⟨fun b hb => ?_, fun b c hb hc hu => ?_⟩, P_eq_c4 ⟨fun k hk => ?_, fun j k hj hk hu => ?_⟩, P_eq_c5 ⟨fun i i1 i2' => ?_, e5.2⟩, P_eq_c6 e6, P_eq_c7 (fun s hs => ?_), c8_eq e8 rfl rfl⟩, K.frC (fun a ha hu => ?_)⟩
  · match j, hj, hjk with
    | 0, _, h => exact absurd rfl h
    | 1, _, _ => rfl
    | 2, _, _ => rfl
    | 3, _, _ => rfl
    | 4, _, _ => rfl
    | 5, _, _ => rfl
  · match j, hj, hjk with
    | 0, _, h => exact absurd rfl h
    | 1, _, _ => rfl
    | 2, _, _ => rfl
    | 3, _, _ => rfl
    | 4, _, _ => rfl
    | 5, _, _ => rfl
  · show (List.range (nB S + 1)).map (Pb P (nB S) x y z 0) = _
    rw [List.range_succ, List.map_append]
    congr 1
    · exact List.map_congr_left (fun b hb => Pb_0o P _ x y z (by have := List.mem_range.mp hb; omega))
    · show [Pb P (nB S) x y z 0 (nB S)] = [x]
      rw [Pb_0]
  · replace hb : b < nB S + 1 := hb
    rw [mm4_belt, mm5_belt, mm6_belt, rr_belt]
    by_cases hbn : b = nB S
    · subst hbn
      rw [if_pos rfl, if_pos rfl, if_pos rfl, Pb_0, Pb_2a, Pb_2b, rn]
      exact ⟨b0, b1, b2, b3, b4, b7, b5, b6, b8, b9⟩
    · rw [if_neg hbn, if_neg hbn, if_neg hbn]
      exact e3.1 b (by omega)
  · replace hb : b < nB S + 1 := hb
    replace hc : c < nB S + 1 := hc
    by_cases hbn : b = nB S
    · by_cases hcn : c = nB S
      · omega
      · rw [hbn, Pb_0, Pb_0o P _ x y z hcn] at hu
        exact absurd hu.symm (hx c (by omega))
    · by_cases hcn : c = nB S
      · rw [hcn, Pb_0, Pb_0o P _ x y z hbn] at hu
        exact absurd hu (hx b (by omega))
      · exact e3.2 b c (by omega) (by omega) hu
  · replace hk : k < 2 * (nB S + 1) := hk
    rw [em 9 (by decide), em 8 (by decide), mm7_belt]
    by_cases hk2 : k = 2 * nB S ∨ k = 2 * nB S + 1
    · rw [if_pos hk2]
      rcases hk2 with hk2 | hk2
      · rw [hk2, Pb_2a]
        exact ⟨y0, by rw [y3, h9 _ (by omega)], fun _ => y1, fun c hc hu => absurd hu.symm (nI_nm (by have : c < nB S + 1 := hc; omega)), fun hu => absurd rfl hu⟩
      · rw [hk2, Pb_2b]
        exact ⟨z0, by rw [z3, h9 _ (by omega)], fun _ => z1, fun c hc hu => absurd hu.symm (nI_nm (by have : c < nB S + 1 := hc; omega)), fun hu => absurd rfl hu⟩
    · rw [if_neg hk2]
      obtain ⟨q0, q1, q2, q3, q4⟩ := e4.1 k (by omega)
      refine ⟨q0, q1, q2, fun c hc hu => ?_, q4⟩
      replace hc : c < nB S + 1 := hc
      by_cases hcn : c = nB S
      · exfalso
        rcases hS.2.2.2.2.2.1 (k / 2) (by omega) (k % 2) (by omega) with h | ⟨c', c1', c2', c3'⟩
        · rw [show 2 * (k / 2) + k % 2 = k by omega, hu] at h
          exact nI_nm (by omega) h
        · rw [show 2 * (k / 2) + k % 2 = k by omega, hu] at c3'
          have := (nI_eq (by omega) (by omega)).mp c3'
          omega
      · exact q3 c (by omega) hu
  · replace hj : j < 2 * (nB S + 1) := hj
    replace hk : k < 2 * (nB S + 1) := hk
    by_cases hjo : j < 2 * nB S
    · by_cases hko : k < 2 * nB S
      · exact e4.2 j k hjo hko hu
      · rw [Pb_2o P _ x y z hjo] at hu
        have hk3 : k = 2 * nB S ∨ k = 2 * nB S + 1 := by omega
        rcases hk3 with hk3 | hk3
        · rw [hk3, Pb_2a] at hu; exact absurd hu (hy j hjo)
        · rw [hk3, Pb_2b] at hu; exact absurd hu (hz j hjo)
    · have hj3 : j = 2 * nB S ∨ j = 2 * nB S + 1 := by omega
      by_cases hko : k < 2 * nB S
      · rw [Pb_2o P _ x y z hko] at hu
        rcases hj3 with hj3 | hj3
        · rw [hj3, Pb_2a] at hu; exact absurd hu.symm (hy k hko)
        · rw [hj3, Pb_2b] at hu; exact absurd hu.symm (hz k hko)
      · have hk3 : k = 2 * nB S ∨ k = 2 * nB S + 1 := by omega
        rcases hj3 with hj3 | hj3 <;> rcases hk3 with hk3 | hk3
        · omega
        · rw [hj3, hk3, Pb_2a, Pb_2b] at hu; exact absurd hu hyz
        · rw [hj3, hk3, Pb_2a, Pb_2b] at hu; exact absurd hu.symm hyz
        · omega
  · rw [em 16 (by decide), em 20 (by decide), em 13 (by decide), em 14 (by decide), em 15 (by decide), em 17 (by decide), em 18 (by decide), em 19 (by decide)]
    obtain ⟨q0, q1, q2, q3, q4, q5, q6⟩ := e5.1 i i1 i2'
    refine ⟨q0, q1, q2, q3, q4, fun b hb hu => ?_, q6⟩
    replace hb : b < nB S + 1 := hb
    obtain ⟨b', b'1, b'2, -⟩ := hS.2.2.2.2.1 i i1 i2'
    have : b = b' := (nI_eq (by omega) (by omega)).mp (hu.symm.trans b'2)
    exact q5 b (by omega) hu
  · obtain ⟨q0, q1, q2, q3, q4⟩ := e7 s hs
    rw [em 22 (by decide), em 23 (by decide), em 24 (by decide)]
    refine ⟨q0, q1, fun b hb hu => ?_, q3, q4⟩
    replace hb : b < nB S + 1 := hb
    obtain ⟨b', b'1, b'2⟩ := hS.2.2.2.2.2.2.2.1 s hs
    have : b = b' := (nI_eq (by omega) (by omega)).mp (hu.symm.trans b'2)
    exact q2 b (by omega) hu
  · rcases hu with u | ⟨u1, u2⟩
    · rw [u, gk.1.2]; unfold kM; omega
    · rw [u2, (gk.2.2.2.2.2.2 u1).2.1.2]; unfold kM; omega
theorem B_belt {e0 mi q : Nat} {P : Nat → Nat → Nat} {S : St} {w : Wd} {LE LW : List (Nat × Ed)} {x1 x2 : Int32} {nc ns : Nat} {Q : Int32 → Wd → Prop} {X : String → Wd → Prop} (R : RC e0 S w q P LE LW) (hS : okS S) (h9 : ok9 S) (hc : 6 + gC (nB S) (nB S) ≤ nc) (hs : 40 + gS (nB S) (nB S) ≤ ns) (h1 : ¬ (rng x1 1 10000 ∧ rng x2 0 1000) → X "java/lang/IllegalArgumentException" w) (h2 : rng x1 1 10000 ∧ rng x2 0 1000 → nB S = 8 → X "java/lang/UnsupportedOperationException" w)
    (h0 : rng x1 1 10000 ∧ rng x2 0 1000 → nB S < 8 → ∀ w' P', RC e0 (beltS S x1 x2) w' q P' LE LW → FrC w w' → Q (nI (nB S)) w') : wp_Br_belt e0 mi q x1 x2 w nc ns Q X := by
  have hb8 := hS.1.1
  unfold wp_Br_belt
  refine ⟨1, 6, by omega, by omega, ck_ok (fun z => ⟨Nat.le_refl _, Nat.le_refl _, h1 (fun y => z y.1)⟩) (fun z1 => ⟨1, 6, by omega, by omega, ck_ok (fun z => ⟨Nat.le_refl _, Nat.le_refl _, h1 (fun y => z y.2)⟩) (fun z2 => ⟨R.1.1, C_size R (k := 0) (by decide) ?_⟩)⟩)⟩
  rw [lsx0]
  refine ⟨fun z => ⟨R.1.1, by omega, by omega, fun x hx w31 e31 => ⟨2, 6, by omega, by omega, ?_⟩⟩, fun z => ⟨by omega, by omega, h2 ⟨z1, z2⟩ ?_⟩⟩
  · have hB7 : nB S < 8 := by
      rcases Nat.lt_or_ge (nB S) 8 with u | u
      · exact u
      · exact absurd z (nI_nlt (b := 8) u (by omega))
    have K0 : Kp (fun _ => False) w w31 := by rw [e31]; exact Kp.rfl.new hx
    have hx1 : bw_is w31 x 0 := by rw [e31]; exact bw_is_self _ x 0 0
    refine Bt_init_ok hx1 (by omega) (by omega) (fun w34 y z' hy hz hyz hN K1 => ?_)
    have K2 : Kp (fun _ => False) w w34 := ((K0.mono (fun _ _ u => u.elim)).trans K1).mono (fun b hb u => hx (u ▸ hb))
    have R2 : RC e0 S w34 q P LE LW := RC_kp R hS K2 (fun a ci ha u => False.elim u)
    have hK0 : isK e0 w34 (P 6 0) (P 7 0) (nB S) ((List.range (nB S)).map (P 0)) := R2.2.1.1 0 (by decide)
    have hlen : ((List.range (nB S)).map (P 0)).length = nB S := by simp
    refine ⟨P 6 0, R.1.2.2.2.2 0 (by decide), hK0.1, gC (nB S) (nB S), gS (nB S) (nB S), by omega, by omega, isK_add hK0 ⟨0, hN.1, by decide, by decide⟩ (by omega) (by rw [hlen]; exact Nat.le_refl _) (by rw [hlen]; exact Nat.le_refl _) (fun w' d' hK hd K => ?_)⟩
    rw [hlen, Nat.max_eq_right (by omega)] at hK
    have hy' : y ∉ wL w := fun u => hy (K0.L u)
    have hz' : z' ∉ wL w := fun u => hz (K0.L u)
    obtain ⟨R', F'⟩ := RC_belt R2 hS h9 hN (fun b hb u => hx (u ▸ (R.2.2.1.1 b hb).1.1)) (fun k hk u => hy' (u ▸ (R.2.2.2.1.1 k hk).1.1)) (fun k hk u => hz' (u ▸ (R.2.2.2.1.1 k hk).1.1)) hyz hK hd K
    exact h0 ⟨z1, z2⟩ hB7 w' _ R' ((K2.frC (fun a ha u => False.elim u)).trans F')
  · rcases Nat.lt_or_ge (nB S) 8 with u | u
    · exact absurd (nI_lt (b := 8) u (by omega)) z
    · omega
