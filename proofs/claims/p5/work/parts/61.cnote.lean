/-! THE CLASS: what scanners note; the items of a belt move -/
theorem gC_cc {l n : Nat} (h : l ≤ n) : cc (max n (l + 1)) = cc n + gC l n ∧ cs (max n (l + 1)) = cs n + gS l n := by
  rcases Nat.lt_or_eq_of_le h with z | z
  · have h1 : gC l n = 0 := by unfold gC; rw [if_neg (by have := cap_le n; omega)]
    have h2 : gS l n = 0 := by unfold gS; rw [if_neg (by have := cap_le n; omega)]
    rw [h1, h2, Nat.max_eq_left (by omega)]; exact ⟨rfl, rfl⟩
  · subst z
    rw [Nat.max_eq_right (by omega)]; exact ⟨rfl, rfl⟩
theorem uC_wait (S : St) (l : List Ed) (e : Ed) (h : (wts S).length ≤ wX S) : usC (waitS S (l ++ [e])) = usC (waitS S l) + 1 + gC (wts S ++ l).length (wX (waitS S l)) ∧ usS (waitS S (l ++ [e])) = usS (waitS S l) + 4 + gS (wts S ++ l).length (wX (waitS S l)) := by
  have hx : wX (waitS S (l ++ [e])) = max (wX (waitS S l)) ((wts S ++ l).length + 1) := by
    show max (wX S) (wts S ++ (l ++ [e])).length = max (max (wX S) (wts S ++ l).length) ((wts S ++ l).length + 1)
    rw [← List.append_assoc]; simp; omega
  have hle : (wts S ++ l).length ≤ wX (waitS S l) := by show _ ≤ max (wX S) (wts S ++ l).length; omega
  have hg := gC_cc hle
  have hlen : (wts (waitS S (l ++ [e]))).length = (wts (waitS S l)).length + 1 := by show (wts S ++ (l ++ [e])).length = (wts S ++ l).length + 1; rw [← List.append_assoc]; simp; omega
  refine ⟨?_, ?_⟩
  · show 3 * nB S + nT S + nS S + (eds S).length + (wts (waitS S (l ++ [e]))).length + cc (nB S) + cc (nT S) + cc (nS S) + cc (eds S).length + cc (wX (waitS S (l ++ [e]))) + cc (gos S).length = (3 * nB S + nT S + nS S + (eds S).length + (wts (waitS S l)).length + cc (nB S) + cc (nT S) + cc (nS S) + cc (eds S).length + cc (wX (waitS S l)) + cc (gos S).length) + 1 + gC (wts S ++ l).length (wX (waitS S l))
    rw [hlen, hx, hg.1]; omega
  · show 15 * nB S + 11 * nT S + 4 * nS S + 4 * (eds S).length + 4 * (wts (waitS S (l ++ [e]))).length + cs (nB S) + cs (nT S) + cs (nS S) + cs (eds S).length + cs (wX (waitS S (l ++ [e]))) + cs (gos S).length = (15 * nB S + 11 * nT S + 4 * nS S + 4 * (eds S).length + 4 * (wts (waitS S l)).length + cs (nB S) + cs (nT S) + cs (nS S) + cs (eds S).length + cs (wX (waitS S l)) + cs (gos S).length) + 4 + gS (wts S ++ l).length (wX (waitS S l))
    rw [hlen, hx, hg.2]; omega
section CL
variable {e0 mi q : Nat} {P : Nat → Nat → Nat} {S : St} {w : Wd} {LE LW : List (Nat × Ed)}
theorem C_waitAdd {x : Nat} {e : Ed} {nc ns : Nat} {Q : Int32 → Wd → Prop} (R : RC e0 S w q P LE LW) (hS : okS S) (hx : edAt w x e) (hl : (wts S).length < 4096) (hc : gC (wts S).length (wX S) ≤ nc) (hs : gS (wts S).length (wX S) ≤ ns)
    (hQ : ∀ w' d', RC e0 (uw S (wts S ++ [e]) (max (wX S) ((wts S).length + 1))) w' q (Pn P 4 d') LE (LW ++ [(x, e)]) → FrC w w' → Q 1 w') : wp_Al_add e0 mi (P 6 4) (some x) w nc ns Q := by
  have hlen := (LE_len R).2
  have hK : isK e0 w (P 6 4) (P 7 4) (wX S) (LW.map Prod.fst) := R.2.1.1 4 (by decide)
  refine isK_add hK ⟨1, hx.1, by decide, by decide⟩ (by omega) (by rw [hlen]; exact hc) (by rw [hlen]; exact hs) (fun w' d' hKn hd K => ?_)
  rw [hlen] at hKn
  have kN : ∀ a, bw_is w a 1 → ¬ (a = P 6 4 ∨ (0 < wX S ∧ a = P 7 4)) := fun a ha z => by
    rcases z with z | ⟨z1, z2⟩
    · exact absurd z (is_ne ha hK.1 (by decide))
    · exact absurd z2 (is_ne ha (hK.2.2.2.2.2.2 z1).2.1 (by decide))
  have h8 : c8 (uw S (wts S ++ [e]) (max (wX S) ((wts S).length + 1))) w' LE (LW ++ [(x, e)]) := by
    obtain ⟨g1, g2, g3, g4⟩ := R.2.2.2.2.2.2.2
    refine ⟨g1, by rw [List.map_append, g2]; rfl, fun y hy => edAt_kp (g3 y hy) K kN, fun y hy => ?_⟩
    rcases List.mem_append.mp hy with z | z
    · exact edAt_kp (g4 y z) K kN
    · rw [List.mem_singleton.mp z]; exact edAt_kp hx K kN
  have := RC_list (S' := uw S (wts S ++ [e]) (max (wX S) ((wts S).length + 1))) (LE' := LE) (LW' := LW ++ [(x, e)]) (k := 4) R hS (by decide) hKn hd K rfl rfl rfl rfl rfl (fun j hj hjk => ?_) rfl (fun j hj hjk => ?_) ?_ h8
  · exact hQ w' d' this.1 this.2
  · match j, hj, hjk with
    | 0, _, _ => rfl
    | 1, _, _ => rfl
    | 2, _, _ => rfl
    | 3, _, _ => rfl
    | 4, _, h => exact absurd rfl h
    | 5, _, _ => rfl
  · match j, hj, hjk with
    | 0, _, _ => rfl
    | 1, _, _ => rfl
    | 2, _, _ => rfl
    | 3, _, _ => rfl
    | 4, _, h => exact absurd rfl h
    | 5, _, _ => rfl
  · show (LW ++ [(x, e)]).map Prod.fst = LW.map Prod.fst ++ [x]
    simp
theorem rds_mono {S : St} {b i : Nat} {o n : Int32} (hw : (wts S).length ≤ wX S) : ∀ (d s : Nat), (rdsS S b i o n s).length ≤ (rdsS S b i o n (s + d)).length ∧ usC (waitS S (rdsS S b i o n s)) ≤ usC (waitS S (rdsS S b i o n (s + d))) ∧ usS (waitS S (rdsS S b i o n s)) ≤ usS (waitS S (rdsS S b i o n (s + d)))
  | 0, s => ⟨Nat.le_refl _, Nat.le_refl _, Nat.le_refl _⟩
  | d + 1, s => by
    have h := rds_mono (b := b) (i := i) (o := o) (n := n) hw d s
    rw [← Nat.add_assoc]
    have e : rdsS S b i o n (s + d + 1) = rdsS S b i o n (s + d) ++ (if mm S 22 (s + d) = nI b ∧ o < mm S 23 (s + d) ∧ mm S 23 (s + d) ≤ n then [(mm S 1 0 + mm S 24 (s + d), 0, i, s + d)] else []) := rfl
    rw [e]
    by_cases hc : mm S 22 (s + d) = nI b ∧ o < mm S 23 (s + d) ∧ mm S 23 (s + d) ≤ n
    · rw [if_pos hc]
      have := uC_wait S (rdsS S b i o n (s + d)) (mm S 1 0 + mm S 24 (s + d), 0, i, s + d) hw
      rw [this.1, this.2, List.length_append]
      omega
    · rw [if_neg hc, List.append_nil]
      exact h
theorem wait_nil {S : St} (hw : (wts S).length ≤ wX S) : waitS S [] = S := by
  unfold waitS
  rw [List.append_nil, Nat.max_eq_left hw]
  rfl
theorem wx_ge (R : RC e0 S w q P LE LW) : (wts S).length ≤ wX S := by
  have := (R.2.1.1 4 (by decide)).2.2.1
  rw [show lsx S P LE LW 4 = LW.map Prod.fst from rfl, (LE_len R).2] at this
  exact this
theorem C_notes_l {b i : Nat} {old : Int32} {P0 : Nat → Nat → Nat} {w0 : Wd} {Q : Wd → Prop} (hS : okS S) (him : i ∈ rr S b) (hw : (wts S).length ≤ wX S) (hl : (wts S ++ rdsS S b i old (mm S 15 i) (nS S)).length < 4096)
    (hQ : ∀ w' P' LW', RC e0 (waitS S (rdsS S b i old (mm S 15 i) (nS S))) w' q P' LE LW' → Pk P0 P' → FrC w0 w' → Q w') :
    ∀ (n s : Nat) (w : Wd) (P : Nat → Nat → Nat) (LW : List (Nat × Ed)) (nc ns : Nat), s + n = nS S → RC e0 (waitS S (rdsS S b i old (mm S 15 i) s)) w q P LE LW → Pk P0 P → FrC w0 w → usC (waitS S (rdsS S b i old (mm S 15 i) (nS S))) ≤ usC (waitS S (rdsS S b i old (mm S 15 i) s)) + nc → usS (waitS S (rdsS S b i old (mm S 15 i) (nS S))) ≤ usS (waitS S (rdsS S b i old (mm S 15 i) s)) + ns →
      wb_Br_noteReads_3 e0 mi Q (n + 1) q (some (P0 0 b)) (some (P0 1 i)) old (nI s) w nc ns := by
  obtain ⟨hb, i1, i2', i3, i4, i5, b8, i61⟩ := in_row hS him
  have hs4 := hS.1.2.2
  intro n
  induction n with
  | zero =>
    intro s w P LW nc ns hsn R hP F hc hs
    have : s = nS S := by omega
    subst this
    unfold wb_Br_noteReads_3
    refine ⟨R.1.1, C_size R (k := 2) (by decide) ?_⟩
    have hl2 : (lsx (waitS S (rdsS S b i old (mm S 15 i) (nS S))) P LE LW 2).length = nS S := by show ((List.range (nS S)).map (P 3)).length = nS S; simp
    rw [hl2]
    exact ⟨fun _ => hQ w P LW R hP F, fun z => absurd (nI_le (Nat.le_refl _) (by omega)) z⟩
  | succ n ih =>
    intro s w P LW nc ns hsn R hP F hc hs
    have hsS : s < nS S := by omega
    have okw : okS (waitS S (rdsS S b i old (mm S 15 i) s)) := ok_wait hS (rds_ok (by omega) s (by omega))
    have hP0 : P 0 = P0 0 := hP 0 (by decide)
    have hP1 : P 1 = P0 1 := hP 1 (by decide)
    unfold wb_Br_noteReads_3
    refine ⟨R.1.1, C_size R (k := 2) (by decide) ?_⟩
    have hl2 : (lsx (waitS S (rdsS S b i old (mm S 15 i) s)) P LE LW 2).length = nS S := by show ((List.range (nS S)).map (P 3)).length = nS S; simp
    rw [hl2]
    obtain ⟨q0, q1, q2, q3, q4⟩ := R.2.2.2.2.2.2.1 s hsS
    have h5i := R.2.2.2.2.1.1 i i1 i2'
    have h3b := R.2.2.1.1 b hb
    obtain ⟨c, c1', c2'⟩ := hS.2.2.2.2.2.2.2.1 s hsS
    have hsb : wR w (P 3 s) 1 = some (P 0 c) := q2 c c1' c2'
    have hcb : (some (P 0 c) = some (P0 0 b)) ↔ mm S 22 s = nI b := by
      rw [c2', ← hP0]
      constructor
      · intro z
        rw [R.2.2.1.2 c b c1' hb (Option.some.inj z)]
      · intro z
        rw [(nI_eq (by have := hS.1.1; omega) (by omega)).mp z]
    have next : ∀ (z0 : Int32) (r5 : Option Nat) (u : Wd) (P' : Nat → Nat → Nat) (LW' : List (Nat × Ed)) (nc' ns' : Nat), RC e0 (waitS S (rdsS S b i old (mm S 15 i) (s + 1))) u q P' LE LW' → Pk P0 P' → FrC w0 u → usC (waitS S (rdsS S b i old (mm S 15 i) (nS S))) ≤ usC (waitS S (rdsS S b i old (mm S 15 i) (s + 1))) + nc' → usS (waitS S (rdsS S b i old (mm S 15 i) (nS S))) ≤ usS (waitS S (rdsS S b i old (mm S 15 i) (s + 1))) + ns' → wb_Br_noteReads_119 e0 mi (wb_Br_noteReads_3 e0 mi Q (n + 1)) Q q (some (P0 0 b)) (some (P0 1 i)) old (nI s) r5 z0 u nc' ns' := fun z0 r5 u P' LW' nc' ns' Ru hPu Fu hcu hsu => by
      unfold wb_Br_noteReads_119
      intro i1 e1
      rw [e1, nI_1]
      exact ih (s + 1) u P' LW' nc' ns' (by omega) Ru hPu Fu hcu hsu
    have e : rdsS S b i old (mm S 15 i) (s + 1) = rdsS S b i old (mm S 15 i) s ++ (if mm S 22 s = nI b ∧ old < mm S 23 s ∧ mm S 23 s ≤ mm S 15 i then [(mm S 1 0 + mm S 24 s, 0, i, s)] else []) := rfl
    have stay : ¬ (mm S 22 s = nI b ∧ old < mm S 23 s ∧ mm S 23 s ≤ mm S 15 i) → wb_Br_noteReads_63 e0 mi (wb_Br_noteReads_3 e0 mi Q (n + 1)) Q q (some (P0 0 b)) (some (P0 1 i)) old (nI s) (some (P 3 s)) w nc ns := fun hno => by
      rw [if_neg hno, List.append_nil] at e
      unfold wb_Br_noteReads_63 wb_Br_noteReads_64
      exact ⟨fun _ => next _ _ w P LW nc ns (by rw [e]; exact R) hP F (by rw [e]; exact hc) (by rw [e]; exact hs), fun z => absurd rfl z⟩
    refine ⟨fun z => absurd z (nI_ge hsS (by omega)), fun _ => ⟨R.1.1, P 6 2, R.1.2.2.2.2 2 (by decide), (R.2.1.1 2 (by decide)).1, isK_get (R.2.1.1 2 (by decide)) (range_get hsS) ⟨fun a ha => (by cases ha; exact q0), P 3 s, rfl, q0, ?_⟩⟩⟩
    rw [hsb, q3]
    have v23 : mm (waitS S (rdsS S b i old (mm S 15 i) s)) 23 s = mm S 23 s := rfl
    rw [v23]
    refine ⟨fun z => stay (fun y => z (hcb.mpr y.1)), fun z => ⟨fun z2 => stay (fun y => absurd y.2.1 (Int32.not_lt.mpr z2)), fun z2 => ⟨P 1 i, by rw [hP1], h5i.1, ?_⟩⟩⟩
    have v15 : wI w (P 1 i) 7 = mm S 15 i := (h5i.2.2.2.2.2.2 i3).1
    rw [v15]
    refine ⟨fun z3 => stay (fun y => absurd y.2.2 (Int32.not_le.mpr z3)), fun z3 => ?_⟩
    have hyes : mm S 22 s = nI b ∧ old < mm S 23 s ∧ mm S 23 s ≤ mm S 15 i := ⟨hcb.mp z, Int32.not_le.mp z2, Int32.not_lt.mp z3⟩
    rw [if_pos hyes] at e
    have uw' := uC_wait S (rdsS S b i old (mm S 15 i) s) (mm S 1 0 + mm S 24 s, 0, i, s) hw
    rw [← e] at uw'
    have mono := rds_mono (b := b) (i := i) (o := old) (n := mm S 15 i) hw (nS S - (s + 1)) (s + 1)
    rw [show s + 1 + (nS S - (s + 1)) = nS S by omega] at mono
    have hlen : (wts S ++ rdsS S b i old (mm S 15 i) s).length < 4096 := by
      have := mono.1
      rw [e] at this
      rw [List.length_append] at hl ⊢
      rw [List.length_append] at this
      omega
    unfold wb_Br_noteReads_64
    refine ⟨fun y => absurd y (by decide), fun _ => ⟨R.1.1, C_size R (k := 4) (by decide) ?_⟩⟩
    have hl4 : (lsx (waitS S (rdsS S b i old (mm S 15 i) s)) P LE LW 4).length = (wts S ++ rdsS S b i old (mm S 15 i) s).length := (LE_len R).2
    rw [hl4]
    refine ⟨fun y => absurd y (nI_ge (b := 4096) hlen (by omega)), fun _ => ⟨R.1.1, by omega, by omega, fun x hx w18 e18 => ?_⟩⟩
    have R2 : RC e0 (waitS S (rdsS S b i old (mm S 15 i) s)) w18 q P LE LW := RC_kp R okw (X := fun _ => False) (by rw [e18]; exact Kp.rfl.new hx) (fun a ci ha z => False.elim z)
    have h7' := R2.2.2.2.2.2.2.1 s hsS
    have h5' := R2.2.2.2.2.1.1 i i1 i2'
    refine ⟨P 3 s, rfl, h7'.1, P 1 i, by rw [hP1], h5'.1, C_newEdge (v0 := wI w18 q 7 + wI w18 (P 3 s) 3) (k := 0) (i := i) (o := s) R okw hx e18 rfl h5'.2.1 h7'.2.1 (fun w25 R3 hE F3 K3 => ?_)⟩
    have vt : wI w18 q 7 + wI w18 (P 3 s) 3 = mm S 1 0 + mm S 24 s := by rw [R2.1.2.2.1, h7'.2.2.2.2]; rfl
    rw [vt] at hE
    refine ⟨P 6 4, R.1.2.2.2.2 4 (by decide), (R3.2.1.1 4 (by decide)).1, gC (wts S ++ rdsS S b i old (mm S 15 i) s).length (wX (waitS S (rdsS S b i old (mm S 15 i) s))), gS (wts S ++ rdsS S b i old (mm S 15 i) s).length (wX (waitS S (rdsS S b i old (mm S 15 i) s))), by omega, by omega, C_waitAdd R3 okw hE hlen (Nat.le_refl _) (Nat.le_refl _) (fun w34 d4 R4 F4 => ?_)⟩
    refine next _ _ w34 (Pn P 4 d4) (LW ++ [(x, (mm S 1 0 + mm S 24 s, 0, i, s))]) _ _ ?_ (hP.trans (Pk_n P 4 d4)) ((F.trans F3).trans F4) (by omega) (by omega)
    have est : uw (waitS S (rdsS S b i old (mm S 15 i) s)) (wts (waitS S (rdsS S b i old (mm S 15 i) s)) ++ [(mm S 1 0 + mm S 24 s, 0, i, s)]) (max (wX (waitS S (rdsS S b i old (mm S 15 i) s))) ((wts (waitS S (rdsS S b i old (mm S 15 i) s))).length + 1)) = waitS S (rdsS S b i old (mm S 15 i) (s + 1)) := by
      rw [e]
      show uw S ((wts S ++ rdsS S b i old (mm S 15 i) s) ++ [(mm S 1 0 + mm S 24 s, 0, i, s)]) (max (max (wX S) (wts S ++ rdsS S b i old (mm S 15 i) s).length) ((wts S ++ rdsS S b i old (mm S 15 i) s).length + 1)) = uw S (wts S ++ (rdsS S b i old (mm S 15 i) s ++ [(mm S 1 0 + mm S 24 s, 0, i, s)])) (max (wX S) (wts S ++ (rdsS S b i old (mm S 15 i) s ++ [(mm S 1 0 + mm S 24 s, 0, i, s)])).length)
      rw [← List.append_assoc]
      congr 1
      simp
      omega
    rw [est] at R4
    exact R4
end CL
