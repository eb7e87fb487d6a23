/-! CALLS OF THE CLASS: a new scanner, a new item -/
def scanS (S : St) (x1 p d : Int32) : St := uS (um (um (um S 22 (nS S) x1) 23 (nS S) p) 24 (nS S) d) (nS S + 1)
theorem mm_scan (S : St) (x1 p d : Int32) {k : Nat} (h : k ≠ 22 ∧ k ≠ 23 ∧ k ≠ 24) : mm (scanS S x1 p d) k = mm S k := by
  unfold scanS
  rw [mm_uS, mm_um_ne _ _ _ h.2.2, mm_um_ne _ _ _ h.2.1, mm_um_ne _ _ _ h.1]
theorem mm22_scan (S : St) (x1 p d : Int32) (s : Nat) : mm (scanS S x1 p d) 22 s = if s = nS S then x1 else mm S 22 s := by
  unfold scanS
  rw [mm_uS, mm_um_ne _ _ _ (by decide), mm_um_ne _ _ _ (by decide), mm_um]
  by_cases h : s = nS S
  · rw [if_pos ⟨rfl, h⟩, if_pos h]
  · rw [if_neg (fun z => h z.2), if_neg h]
theorem mm23_scan (S : St) (x1 p d : Int32) (s : Nat) : mm (scanS S x1 p d) 23 s = if s = nS S then p else mm S 23 s := by
  unfold scanS
  rw [mm_uS, mm_um_ne _ _ _ (by decide), mm_um]
  by_cases h : s = nS S
  · rw [if_pos ⟨rfl, h⟩, if_pos h]
  · rw [if_neg (fun z => h z.2), if_neg h, mm_um_ne _ _ _ (by decide)]
theorem mm24_scan (S : St) (x1 p d : Int32) (s : Nat) : mm (scanS S x1 p d) 24 s = if s = nS S then d else mm S 24 s := by
  unfold scanS
  rw [mm_uS, mm_um]
  by_cases h : s = nS S
  · rw [if_pos ⟨rfl, h⟩, if_pos h]
  · rw [if_neg (fun z => h z.2), if_neg h, mm_um_ne _ _ _ (by decide), mm_um_ne _ _ _ (by decide)]
/-- one more cell of a family -/
def P1x (P : Nat → Nat → Nat) (f n x : Nat) : Nat → Nat → Nat := fun a j => if a = f ∧ j = n then x else P a j
theorem P1x_at (P : Nat → Nat → Nat) (f n x : Nat) : P1x P f n x f n = x := by unfold P1x; rw [if_pos ⟨rfl, rfl⟩]
theorem P1x_ne (P : Nat → Nat → Nat) (f n x : Nat) {j : Nat} (h : j ≠ n) : P1x P f n x f j = P f j := by unfold P1x; rw [if_neg (fun u => h u.2)]
theorem P1x_o (P : Nat → Nat → Nat) (f n x : Nat) {a : Nat} (h : a ≠ f) : P1x P f n x a = P a := by
  funext j; unfold P1x; rw [if_neg (fun u => h u.1)]
section CL
variable {e0 mi q : Nat} {P : Nat → Nat → Nat} {S : St} {w : Wd} {LE LW : List (Nat × Ed)}
theorem RC_scan {x d' b : Nat} {w' : Wd} {p dl : Int32} (R : RC e0 S w q P LE LW) (hS : okS S) (hb : b < nB S) (i0 : bw_is w x 3) (i1 : wI w x 0 = nI (nS S)) (i2' : wR w x 1 = some (P 0 b)) (i3 : wI w x 2 = p) (i4 : wI w x 3 = dl)
    (hK : isK e0 w' (P 6 2) d' (nS S + 1) ((List.range (nS S)).map (P 3) ++ [x])) (hd : (d' = P 7 2 ∧ 0 < nS S) ∨ d' ∉ wL w) (K : Kp (fun u => u = P 6 2 ∨ (0 < nS S ∧ u = P 7 2)) w w') : RC e0 (scanS S (nI b) p dl) w' q (Pn (P1x P 3 (nS S) x) 2 d') LE LW ∧ FrC w w' := by
  have hb8 := hS.1.1
  have R1 : RC e0 S w q (P1x P 3 (nS S) x) LE LW := RC_ext R hS (fun b _ => by rw [P1x_o P 3 _ x (by decide)]) (fun i _ _ => by rw [P1x_o P 3 _ x (by decide)]) (fun k _ => by rw [P1x_o P 3 _ x (by decide)]) (fun s hs => P1x_ne P 3 _ x (by omega)) (P1x_o P 3 _ x (by decide)) (P1x_o P 3 _ x (by decide))
  have P6 : P1x P 3 (nS S) x 6 = P 6 := P1x_o P 3 _ x (by decide)
  have P7 : P1x P 3 (nS S) x 7 = P 7 := P1x_o P 3 _ x (by decide)
  have P0 : P1x P 3 (nS S) x 0 = P 0 := P1x_o P 3 _ x (by decide)
  have gk := R.2.1.1 2 (by decide)
  have kN : ∀ ci, ci ≠ 7 → ci ≠ 100 → ∀ a, bw_is w a ci → ¬ (a = P 6 2 ∨ (0 < nS S ∧ a = P 7 2)) := fun ci c7' c100 a ha u => by
    rcases u with u | ⟨u1, u2⟩
    · exact absurd u (is_ne ha gk.1 c7')
    · exact absurd u2 (is_ne ha (gk.2.2.2.2.2.2 u1).2.1 c100)
  have hxX := kN 3 (by decide) (by decide) x i0
  obtain ⟨r1, r2, r3, r4, r5, r6, r7, r8⟩ := R1
  have e1 := c1_kp r1 K (kN 5 (by decide) (by decide))
  have e3 := c3_kp r3 K (kN 0 (by decide) (by decide))
  have e4 := c4_kp r4 K (kN 4 (by decide) (by decide))
  have e5 := c5_kp r5 K (kN 2 (by decide) (by decide))
  have e6 := c6_kp r6 r5 hS K (kN 2 (by decide) (by decide))
  have e7 := c7_kp r7 K (kN 3 (by decide) (by decide))
  have e8 := c8_kp r8 K (kN 1 (by decide) (by decide))
  have em : ∀ k, k ≠ 22 ∧ k ≠ 23 ∧ k ≠ 24 → mm (scanS S (nI b) p dl) k = mm S k := fun k hk => mm_scan S (nI b) p dl hk
  refine ⟨⟨P_eq_c1 (c1_eq e1 (em 1 (by decide)) (em 2 (by decide)) (em 30 (by decide))), c2_add (S' := scanS S (nI b) p dl) (LE' := LE) (LW' := LW) r2 (k := 2) (by decide) (by rw [P6]; exact hK) (by rw [P7]; exact hd) (by rw [P6, P7]; exact K) (fun j hj hjk => ?_) rfl (fun j hj hjk => ?_) ?_, P_eq_c3 ?_, P_eq_c4 (c4_eq e4 rfl (em 7 (by decide)) (em 8 (by decide)) (em 9 (by decide))), P_eq_c5 ?_, P_eq_c6 e6, P_eq_c7 (fun s hs => ?_), c8_eq e8 rfl rfl⟩, K.frC (fun a ha hu => ?_)⟩
  · match j, hj, hjk with
    | 0, _, _ => rfl
    | 1, _, _ => rfl
    | 2, _, h => exact absurd rfl h
    | 3, _, _ => rfl
    | 4, _, _ => rfl
    | 5, _, _ => rfl
  · match j, hj, hjk with
    | 0, _, _ => rfl
    | 1, _, _ => rfl
    | 2, _, h => exact absurd rfl h
    | 3, _, _ => rfl
    | 4, _, _ => rfl
    | 5, _, _ => rfl
  · show (List.range (nS S + 1)).map (P1x P 3 (nS S) x 3) = _
    rw [List.range_succ, List.map_append]
    congr 1
    · exact List.map_congr_left (fun s hs => P1x_ne P 3 _ x (by have := List.mem_range.mp hs; omega))
    · show [P1x P 3 (nS S) x 3 (nS S)] = [x]
      rw [P1x_at]
  · unfold c3 at *
    rw [em 4 (by decide), em 5 (by decide), em 6 (by decide)]; exact e3
  · unfold c5 at *
    rw [em 13 (by decide), em 14 (by decide), em 15 (by decide), em 16 (by decide), em 17 (by decide), em 18 (by decide), em 19 (by decide), em 20 (by decide)]; exact e5
  · replace hs : s < nS S + 1 := hs
    rw [mm22_scan, mm23_scan, mm24_scan]
    by_cases hsn : s = nS S
    · subst hsn
      rw [if_pos rfl, if_pos rfl, if_pos rfl, P1x_at, K.I i0.1 hxX, K.R i0.1 hxX, P0]
      refine ⟨K.is i0, i1, fun c hc hu => ?_, i3, i4⟩
      replace hc : c < nB S := hc
      rw [i2', (nI_eq (by omega) (by omega)).mp hu]
    · rw [if_neg hsn, if_neg hsn, if_neg hsn]
      exact e7 s (by omega)
  · rcases hu with u | ⟨u1, u2⟩
    · rw [u, gk.1.2]; unfold kM; omega
    · rw [u2, (gk.2.2.2.2.2.2 u1).2.1.2]; unfold kM; omega
theorem B_scanner {x1 x2 x3 : Int32} {nc ns : Nat} {Q : Int32 → Wd → Prop} {X : String → Wd → Prop} (R : RC e0 S w q P LE LW) (hS : okS S) (hc : 5 + gC (nS S) (nS S) ≤ nc) (hs : 30 + gS (nS S) (nS S) ≤ ns) (h1 : ¬ (∃ b, b < nB S ∧ x1 = nI b) → X "java/util/NoSuchElementException" w)
    (h2 : ∀ b, b < nB S → x1 = nI b → ¬ (rng x2 1 (mm S 4 b) ∧ rng x3 1 20) → X "java/lang/IllegalArgumentException" w) (h3 : ∀ b, b < nB S → x1 = nI b → rng x2 1 (mm S 4 b) ∧ rng x3 1 20 → nS S = 4 → X "java/lang/UnsupportedOperationException" w)
    (h0 : ∀ b, b < nB S → x1 = nI b → rng x2 1 (mm S 4 b) ∧ rng x3 1 20 → nS S < 4 → ∀ w' P', RC e0 (scanS S (nI b) x2 x3) w' q P' LE LW → FrC w w' → Q (nI (nS S)) w') : wp_Br_scanner e0 mi q x1 x2 x3 w nc ns Q X := by
  have hs4 := hS.1.2.2
  unfold wp_Br_scanner
  refine ⟨R.1.1, 1, 6, by omega, by omega, C_fb R hS (fun z => ⟨Nat.le_refl _, Nat.le_refl _, h1 z⟩) (fun b hb hx => ⟨P 0 b, rfl, (R.2.2.1.1 b hb).1, 1, 6, by omega, by omega, ?_⟩)⟩
  rw [(R.2.2.1.1 b hb).2.2.1]
  refine ck_ok (fun z => ⟨Nat.le_refl _, Nat.le_refl _, h2 b hb hx (fun y => z y.1)⟩) (fun z1 => ⟨1, 6, by omega, by omega, ck_ok (fun z => ⟨Nat.le_refl _, Nat.le_refl _, h2 b hb hx (fun y => z y.2)⟩) (fun z2 => ⟨R.1.1, C_size R (k := 2) (by decide) ?_⟩)⟩)
  have hl2 : (lsx S P LE LW 2).length = nS S := by show ((List.range (nS S)).map (P 3)).length = _; simp
  rw [hl2]
  refine ⟨fun z => ⟨R.1.1, by omega, by omega, fun x hx' w41 e41 => ?_⟩, fun z => ⟨by omega, by omega, h3 b hb hx ⟨z1, z2⟩ ?_⟩⟩
  · have hn4 : nS S < 4 := by
      rcases Nat.lt_or_ge (nS S) 4 with u | u
      · exact u
      · exact absurd z (nI_nlt (b := 4) u (by omega))
    unfold wp_Sc_init
    have ix : bw_is w41 x 3 := by rw [e41]; exact bw_is_self _ x 3 0
    have K2 : Kp (fun _ => False) w (sI (sI (sR (sI w41 x 0 (nI (nS S))) x 1 (some (P 0 b))) x 2 x2) x 3 x3) := by
      rw [e41]
      exact ((((Kp.rfl.new hx').sI (fun u => hx' u)).sR (fun u => hx' u)).sI (fun u => hx' u)).sI (fun u => hx' u)
    have R2 := RC_kp R hS K2 (fun a ci ha u => False.elim u)
    refine ⟨ix, P 6 2, R.1.2.2.2.2 2 (by decide), (R2.2.1.1 2 (by decide)).1, gC (nS S) (nS S), gS (nS S) (nS S), by omega, by omega, ?_⟩
    have f0 : bw_is (sI (sI (sR (sI w41 x 0 (nI (nS S))) x 1 (some (P 0 b))) x 2 x2) x 3 x3) x 3 := is_eq (by rw [pL_I, pL_I, pL_R, pL_I]) (by rw [pK_I, pK_I, pK_R, pK_I]) ix
    have f1 : wI (sI (sI (sR (sI w41 x 0 (nI (nS S))) x 1 (some (P 0 b))) x 2 x2) x 3 x3) x 0 = nI (nS S) := by rw [pI_I, if_neg (fun u => by simp at u), pI_I, if_neg (fun u => by simp at u), pI_R, pI_I, if_pos ⟨rfl, rfl⟩]
    have f2 : wR (sI (sI (sR (sI w41 x 0 (nI (nS S))) x 1 (some (P 0 b))) x 2 x2) x 3 x3) x 1 = some (P 0 b) := by rw [pR_I, pR_I, pR_R, if_pos ⟨rfl, rfl⟩]
    have f3 : wI (sI (sI (sR (sI w41 x 0 (nI (nS S))) x 1 (some (P 0 b))) x 2 x2) x 3 x3) x 2 = x2 := by rw [pI_I, if_neg (fun u => by simp at u), pI_I, if_pos ⟨rfl, rfl⟩]
    have f4 : wI (sI (sI (sR (sI w41 x 0 (nI (nS S))) x 1 (some (P 0 b))) x 2 x2) x 3 x3) x 3 = x3 := by rw [pI_I, if_pos ⟨rfl, rfl⟩]
    have F2 : FrC w (sI (sI (sR (sI w41 x 0 (nI (nS S))) x 1 (some (P 0 b))) x 2 x2) x 3 x3) := K2.frC (fun a ha u => False.elim u)
    have hK0 : isK e0 (sI (sI (sR (sI w41 x 0 (nI (nS S))) x 1 (some (P 0 b))) x 2 x2) x 3 x3) (P 6 2) (P 7 2) (nS S) ((List.range (nS S)).map (P 3)) := R2.2.1.1 2 (by decide)
    have hlen : ((List.range (nS S)).map (P 3)).length = nS S := by simp
    refine isK_add hK0 ⟨3, f0, by decide, by decide⟩ (by omega) (by rw [hlen]; exact Nat.le_refl _) (by rw [hlen]; exact Nat.le_refl _) (fun w' d' hK hd K => ?_)
    rw [hlen, Nat.max_eq_right (by omega)] at hK
    obtain ⟨R', F'⟩ := RC_scan R2 hS hb f0 f1 f2 f3 f4 hK hd K
    exact h0 b hb hx ⟨z1, z2⟩ hn4 w' _ R' (F2.trans F')
  · rcases Nat.lt_or_ge (nS S) 4 with u | u
    · exact absurd (nI_lt (b := 4) u (by omega)) z
    · omega
end CL
