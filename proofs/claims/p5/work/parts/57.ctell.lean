/-! THE CLASS: edges, what went out -/
theorem P_eq_c1 {S : St} {w : Wd} {q : Nat} {P : Nat → Nat → Nat} {k d : Nat} (h : c1 S w q P) : c1 S w q (Pn P k d) := by
  unfold c1 at *
  rw [Pn_o P k d (show (6 : Nat) ≠ 7 by decide)]; exact h
theorem P_eq_c3 {S : St} {w : Wd} {P : Nat → Nat → Nat} {k d : Nat} (h : c3 S w P) : c3 S w (Pn P k d) := by
  unfold c3 at *
  rw [Pn_o P k d (show (0 : Nat) ≠ 7 by decide), Pn_o P k d (show (1 : Nat) ≠ 7 by decide), Pn_o P k d (show (2 : Nat) ≠ 7 by decide)]; exact h
theorem P_eq_c4 {S : St} {w : Wd} {P : Nat → Nat → Nat} {k d : Nat} (h : c4 S w P) : c4 S w (Pn P k d) := by
  unfold c4 at *
  rw [Pn_o P k d (show (0 : Nat) ≠ 7 by decide), Pn_o P k d (show (2 : Nat) ≠ 7 by decide)]; exact h
theorem P_eq_c5 {S : St} {w : Wd} {P : Nat → Nat → Nat} {k d : Nat} (h : c5 S w P) : c5 S w (Pn P k d) := by
  unfold c5 at *
  rw [Pn_o P k d (show (0 : Nat) ≠ 7 by decide), Pn_o P k d (show (1 : Nat) ≠ 7 by decide)]; exact h
theorem P_eq_c6 {S : St} {w : Wd} {P : Nat → Nat → Nat} {k d : Nat} (h : c6 S w P) : c6 S w (Pn P k d) := by
  unfold c6 at *
  rw [Pn_o P k d (show (1 : Nat) ≠ 7 by decide)]; exact h
theorem P_eq_c7 {S : St} {w : Wd} {P : Nat → Nat → Nat} {k d : Nat} (h : c7 S w P) : c7 S w (Pn P k d) := by
  unfold c7 at *
  rw [Pn_o P k d (show (0 : Nat) ≠ 7 by decide), Pn_o P k d (show (3 : Nat) ≠ 7 by decide)]; exact h
/-- the list k has another length: the rest is as it was -/
theorem RC_list {e0 : Nat} {S S' : St} {w w' : Wd} {q : Nat} {P : Nat → Nat → Nat} {LE LW LE' LW' : List (Nat × Ed)} {k d' n' : Nat} {xs' : List Nat} (R : RC e0 S w q P LE LW) (hS : okS S) (hk : k < 6) (hK : isK e0 w' (P 6 k) d' n' xs') (hd : (d' = P 7 k ∧ 0 < lmx S k) ∨ d' ∉ wL w)
    (K : Kp (fun x => x = P 6 k ∨ (0 < lmx S k ∧ x = P 7 k)) w w') (hm : mm S' = mm S) (hr : rr S' = rr S) (hB : nB S' = nB S) (hT : nT S' = nT S) (hs : nS S' = nS S) (hl : ∀ j, j < 6 → j ≠ k → lmx S' j = lmx S j) (hl' : lmx S' k = n') (hx : ∀ j, j < 6 → j ≠ k → lsx S' P LE' LW' j = lsx S P LE LW j) (hx' : lsx S' P LE' LW' k = xs') (h8 : c8 S' w' LE' LW') : RC e0 S' w' q (Pn P k d') LE' LW' ∧ FrC w w' := by
  obtain ⟨r1, r2, r3, r4, r5, r6, r7, r8⟩ := R
  have gk := r2.1 k hk
  have kN : ∀ ci, ci ≠ 7 → ci ≠ 100 → ∀ a, bw_is w a ci → ¬ (a = P 6 k ∨ (0 < lmx S k ∧ a = P 7 k)) := fun ci c7' c100 a ha z => by
    rcases z with z | ⟨z1, z2⟩
    · exact absurd z (is_ne ha gk.1 c7')
    · exact absurd z2 (is_ne ha (gk.2.2.2.2.2.2 z1).2.1 c100)
  have e1 := c1_kp r1 K (kN 5 (by decide) (by decide))
  have e3 := c3_kp r3 K (kN 0 (by decide) (by decide))
  have e4 := c4_kp r4 K (kN 4 (by decide) (by decide))
  have e5 := c5_kp r5 K (kN 2 (by decide) (by decide))
  have e6 := c6_kp r6 r5 hS K (kN 2 (by decide) (by decide))
  have e7 := c7_kp r7 K (kN 3 (by decide) (by decide))
  refine ⟨⟨P_eq_c1 (c1_eq e1 (by rw [hm]) (by rw [hm]) (by rw [hm])), c2_add r2 hk hK hd K hl hl' hx hx', P_eq_c3 ?_, P_eq_c4 (c4_eq e4 hB (by rw [hm]) (by rw [hm]) (by rw [hm])), P_eq_c5 ?_, P_eq_c6 ?_, P_eq_c7 (c7_eq e7 hB hs (by rw [hm]) (by rw [hm]) (by rw [hm])), h8⟩, K.frC (fun a ha hx => ?_)⟩
  · unfold c3 at *; rw [hm, hr, hB]; exact e3
  · unfold c5 at *; rw [hm, hB, hT]; exact e5
  · unfold c6 at *; rw [hr]; exact e6
  · rcases hx with z | ⟨z1, z2⟩
    · rw [z, gk.1.2]; unfold kM; omega
    · rw [z2, (gk.2.2.2.2.2.2 z1).2.1.2]; unfold kM; omega
section CL
variable {e0 mi q : Nat} {P : Nat → Nat → Nat} {S : St} {w : Wd} {LE LW : List (Nat × Ed)}
theorem LE_len (R : RC e0 S w q P LE LW) : (LE.map Prod.fst).length = (eds S).length ∧ (LW.map Prod.fst).length = (wts S).length := by
  rw [← R.2.2.2.2.2.2.2.1, ← R.2.2.2.2.2.2.2.2.1]; simp
theorem C_tell {x : Nat} {e : Ed} {nc ns : Nat} {Q : Wd → Prop} (R : RC e0 S w q P LE LW) (hS : okS S) (hx : edAt w x e) (hl : (eds S).length < 4096) (hc : gC (eds S).length (eds S).length ≤ nc) (hs : gS (eds S).length (eds S).length ≤ ns)
    (hQ : ∀ w' d', RC e0 (tellS S e) w' q (Pn P 3 d') (LE ++ [(x, e)]) LW → FrC w w' → Q w') : wp_Br_tell e0 mi q (some x) w nc ns Q := by
  have hlen := (LE_len R).1
  unfold wp_Br_tell wb_Br_tell_22
  refine ⟨R.1.1, C_size R (k := 3) (by decide) ?_⟩
  rw [show lsx S P LE LW 3 = LE.map Prod.fst from rfl, hlen]
  refine ⟨fun z => absurd z (nI_ge (b := 4096) hl (by omega)), fun _ => ⟨R.1.1, P 6 3, R.1.2.2.2.2 3 (by decide), (R.2.1.1 3 (by decide)).1, nc, ns, Nat.le_refl _, Nat.le_refl _, ?_⟩⟩
  have hK := R.2.1.1 3 (by decide)
  have hK' : isK e0 w (P 6 3) (P 7 3) (eds S).length (LE.map Prod.fst) := hK
  refine isK_add hK' ⟨1, hx.1, by decide, by decide⟩ (by omega) (by rw [hlen]; exact hc) (by rw [hlen]; exact hs) (fun w' d' hKn hd K => ?_)
  rw [hlen, Nat.max_eq_right (by omega)] at hKn
  have h8 : c8 (tellS S e) w' (LE ++ [(x, e)]) LW := by
    obtain ⟨g1, g2, g3, g4⟩ := R.2.2.2.2.2.2.2
    have kN : ∀ a, bw_is w a 1 → ¬ (a = P 6 3 ∨ (0 < (eds S).length ∧ a = P 7 3)) := fun a ha z => by
      rcases z with z | ⟨z1, z2⟩
      · exact absurd z (is_ne ha hK.1 (by decide))
      · exact absurd z2 (is_ne ha (hK'.2.2.2.2.2.2 z1).2.1 (by decide))
    refine ⟨by rw [List.map_append, g1]; rfl, g2, fun y hy => ?_, fun y hy => edAt_kp (g4 y hy) K kN⟩
    rcases List.mem_append.mp hy with z | z
    · exact edAt_kp (g3 y z) K kN
    · rw [List.mem_singleton.mp z]; exact edAt_kp hx K kN
  have := RC_list (S' := tellS S e) (LE' := LE ++ [(x, e)]) (LW' := LW) (k := 3) R hS (by decide) hKn hd K rfl rfl rfl rfl rfl (fun j hj hjk => ?_) ?_ (fun j hj hjk => ?_) ?_ h8
  · exact hQ w' d' this.1 this.2
  · match j, hj, hjk with
    | 0, _, _ => rfl
    | 1, _, _ => rfl
    | 2, _, _ => rfl
    | 3, _, h => exact absurd rfl h
    | 4, _, _ => rfl
    | 5, _, _ => rfl
  · show (eds S ++ [e]).length = (eds S).length + 1
    simp
  · match j, hj, hjk with
    | 0, _, _ => rfl
    | 1, _, _ => rfl
    | 2, _, _ => rfl
    | 3, _, h => exact absurd rfl h
    | 4, _, _ => rfl
    | 5, _, _ => rfl
  · show (LE ++ [(x, e)]).map Prod.fst = LE.map Prod.fst ++ [x]
    simp
/-- a new edge, not told yet -/
theorem C_newEdge {v0 : Int32} {v1 v2 v3 : Int32} {k i o : Nat} {Q : Wd → Prop} {x : Nat} {w1 : Wd} (R : RC e0 S w q P LE LW) (hS : okS S) (hx : x ∉ wL w) (e1 : w1 = bw_new w x 1 0) (h1 : v1 = nI k) (h2 : v2 = nI i) (h3 : v3 = nI o)
    (hQ : ∀ w', RC e0 S w' q P LE LW → edAt w' x (v0, k, i, o) → FrC w w' → Kp (fun _ => False) w w' → Q w') : wp_Ed_init e0 mi x v0 v1 v2 v3 w1 Q := by
  unfold wp_Ed_init
  have ix : bw_is w1 x 1 := by rw [e1]; exact bw_is_self w x 1 0
  have K : Kp (fun _ => False) w (sI (sI (sI (sI w1 x 0 v0) x 1 v1) x 2 v2) x 3 v3) := by
    rw [e1]
    exact ((((Kp.rfl.new hx).sI (fun z => hx z)).sI (fun z => hx z)).sI (fun z => hx z)).sI (fun z => hx z)
  refine ⟨ix, hQ _ (RC_kp R hS K (fun a ci ha z => z.elim)) ⟨?_, ?_, ?_, ?_, ?_⟩ (K.frC (fun a ha z => z.elim)) K⟩
  · exact is_eq (by rw [pL_I, pL_I, pL_I, pL_I]) (by rw [pK_I, pK_I, pK_I, pK_I]) ix
  · rw [pI_I, if_neg (fun z => by simp at z), pI_I, if_neg (fun z => by simp at z), pI_I, if_neg (fun z => by simp at z), pI_I, if_pos ⟨rfl, rfl⟩]
  · rw [pI_I, if_neg (fun z => by simp at z), pI_I, if_neg (fun z => by simp at z), pI_I, if_pos ⟨rfl, rfl⟩]; exact h1
  · rw [pI_I, if_neg (fun z => by simp at z), pI_I, if_pos ⟨rfl, rfl⟩]; exact h2
  · rw [pI_I, if_pos ⟨rfl, rfl⟩]; exact h3
theorem C_goneAdd {i : Nat} {nc ns : Nat} {Q : Int32 → Wd → Prop} (R : RC e0 S w q P LE LW) (hS : okS S) (i1 : 1 ≤ i) (i2' : i ≤ nT S) (hl : (gos S).length < 4096) (hc : gC (gos S).length (gos S).length ≤ nc) (hs : gS (gos S).length (gos S).length ≤ ns)
    (hQ : ∀ w' d', RC e0 (ug S (gos S ++ [i])) w' q (Pn P 5 d') LE LW → FrC w w' → Q 1 w') : wp_Al_add e0 mi (P 6 5) (some (P 1 i)) w nc ns Q := by
  have hK : isK e0 w (P 6 5) (P 7 5) (gos S).length ((gos S).map (P 1)) := R.2.1.1 5 (by decide)
  have hlen : ((gos S).map (P 1)).length = (gos S).length := by simp
  refine isK_add hK ⟨2, (R.2.2.2.2.1.1 i i1 i2').1, by decide, by decide⟩ (by omega) (by rw [hlen]; exact hc) (by rw [hlen]; exact hs) (fun w' d' hKn hd K => ?_)
  rw [hlen, Nat.max_eq_right (by omega)] at hKn
  have h8 : c8 (ug S (gos S ++ [i])) w' LE LW := by
    refine c8_eq (c8_kp R.2.2.2.2.2.2.2 K (fun a ha z => ?_)) rfl rfl
    rcases z with z | ⟨z1, z2⟩
    · exact absurd z (is_ne ha hK.1 (by decide))
    · exact absurd z2 (is_ne ha (hK.2.2.2.2.2.2 z1).2.1 (by decide))
  have := RC_list (S' := ug S (gos S ++ [i])) (LE' := LE) (LW' := LW) (k := 5) R hS (by decide) hKn hd K rfl rfl rfl rfl rfl (fun j hj hjk => ?_) ?_ (fun j hj hjk => ?_) ?_ h8
  · exact hQ w' d' this.1 this.2
  · match j, hj, hjk with
    | 0, _, _ => rfl
    | 1, _, _ => rfl
    | 2, _, _ => rfl
    | 3, _, _ => rfl
    | 4, _, _ => rfl
    | 5, _, h => exact absurd rfl h
  · show (gos S ++ [i]).length = (gos S).length + 1
    simp
  · match j, hj, hjk with
    | 0, _, _ => rfl
    | 1, _, _ => rfl
    | 2, _, _ => rfl
    | 3, _, _ => rfl
    | 4, _, _ => rfl
    | 5, _, h => exact absurd rfl h
  · show (gos S ++ [i]).map (P 1) = (gos S).map (P 1) ++ [P 1 i]
    simp
end CL
