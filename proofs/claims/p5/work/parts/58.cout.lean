/-! THE CLASS: what goes out. The room that a state has taken -/
def cc : Nat → Nat
  | 0 => 0
  | n + 1 => cc n + gC n n
def cs : Nat → Nat
  | 0 => 0
  | n + 1 => cs n + gS n n
def usC (S : St) : Nat := 3 * nB S + nT S + nS S + (eds S).length + (wts S).length + cc (nB S) + cc (nT S) + cc (nS S) + cc (eds S).length + cc (wX S) + cc (gos S).length
def usS (S : St) : Nat := 15 * nB S + 11 * nT S + 4 * nS S + 4 * (eds S).length + 4 * (wts S).length + cs (nB S) + cs (nT S) + cs (nS S) + cs (eds S).length + cs (wX S) + cs (gos S).length
theorem uC_tell (S : St) (e : Ed) : usC (tellS S e) = usC S + 1 + gC (eds S).length (eds S).length ∧ usS (tellS S e) = usS S + 4 + gS (eds S).length (eds S).length := by
  have h : (eds (tellS S e)).length = (eds S).length + 1 := by unfold tellS; rw [eds_ue]; simp
  have c1' : cc ((eds S).length + 1) = cc (eds S).length + gC (eds S).length (eds S).length := rfl
  have c2' : cs ((eds S).length + 1) = cs (eds S).length + gS (eds S).length (eds S).length := rfl
  refine ⟨?_, ?_⟩
  · show 3 * nB S + nT S + nS S + (eds (tellS S e)).length + (wts S).length + cc (nB S) + cc (nT S) + cc (nS S) + cc (eds (tellS S e)).length + cc (wX S) + cc (gos S).length = _
    rw [h, c1']; unfold usC; omega
  · show 15 * nB S + 11 * nT S + 4 * nS S + 4 * (eds (tellS S e)).length + 4 * (wts S).length + cs (nB S) + cs (nT S) + cs (nS S) + cs (eds (tellS S e)).length + cs (wX S) + cs (gos S).length = _
    rw [h, c2']; unfold usS; omega
theorem uC_gone (S : St) (i : Nat) : usC (ug S (gos S ++ [i])) = usC S + gC (gos S).length (gos S).length ∧ usS (ug S (gos S ++ [i])) = usS S + gS (gos S).length (gos S).length := by
  have h : (gos (ug S (gos S ++ [i]))).length = (gos S).length + 1 := by rw [gos_ug]; simp
  have c1' : cc ((gos S).length + 1) = cc (gos S).length + gC (gos S).length (gos S).length := rfl
  have c2' : cs ((gos S).length + 1) = cs (gos S).length + gS (gos S).length (gos S).length := rfl
  refine ⟨?_, ?_⟩
  · show 3 * nB S + nT S + nS S + (eds S).length + (wts S).length + cc (nB S) + cc (nT S) + cc (nS S) + cc (eds S).length + cc (wX S) + cc (gos (ug S (gos S ++ [i]))).length = _
    rw [h, c1']; unfold usC; omega
  · show 15 * nB S + 11 * nT S + 4 * nS S + 4 * (eds S).length + 4 * (wts S).length + cs (nB S) + cs (nT S) + cs (nS S) + cs (eds S).length + cs (wX S) + cs (gos (ug S (gos S ++ [i]))).length = _
    rw [h, c2']; unfold usS; omega
/-- only the rows of the lists have moved -/
def Pk (P P' : Nat → Nat → Nat) : Prop := ∀ a, a ≠ 7 → P' a = P a
theorem Pk.rfl {P : Nat → Nat → Nat} : Pk P P := fun _ _ => Eq.refl _
theorem Pk.trans {P1 P2 P3 : Nat → Nat → Nat} (h1 : Pk P1 P2) (h2 : Pk P2 P3) : Pk P1 P3 := fun a ha => (h2 a ha).trans (h1 a ha)
theorem Pk_n (P : Nat → Nat → Nat) (k d : Nat) : Pk P (Pn P k d) := fun _ ha => Pn_o P k d ha
section CL
variable {e0 mi q : Nat} {P : Nat → Nat → Nat} {S : St} {w : Wd} {LE LW : List (Nat × Ed)}
/-- a number of the object itself -/
theorem RC_own {S' : St} {s : Nat} {v : Int32} (R : RC e0 S w q P LE LW) (hS : okS S) (hr : rr S' = rr S) (hB : nB S' = nB S) (hT : nT S' = nT S) (hs : nS S' = nS S) (hl : ∀ k, lmx S' k = lmx S k) (hx : ∀ k, lsx S' P LE LW k = lsx S P LE LW k) (he : eds S' = eds S) (hw : wts S' = wts S)
    (hm : ∀ k, k ≠ 1 → k ≠ 2 → k ≠ 30 → mm S' k = mm S k) (t2 : (if s = 6 then v else mm S 2 0) = mm S' 2 0) (t1 : (if s = 7 then v else mm S 1 0) = mm S' 1 0) (t30 : (if s = 8 then v else mm S 30 0) = mm S' 30 0) : RC e0 S' (sI w q s v) q P LE LW ∧ FrC w (sI w q s v) := by
  obtain ⟨r1, r2, r3, r4, r5, r6, r7, r8⟩ := R
  have K : Kp (fun x => x = q) w (sI w q s v) := Kp.rfl.sI (fun _ => rfl)
  have kN : ∀ ci, ci ≠ 5 → ∀ a, bw_is w a ci → ¬ a = q := fun ci hci a ha => is_ne ha r1.1 hci
  have e3 := c3_kp r3 K (kN 0 (by decide))
  have e4 := c4_kp r4 K (kN 4 (by decide))
  have e5 := c5_kp r5 K (kN 2 (by decide))
  have e6 := c6_kp r6 r5 hS K (kN 2 (by decide))
  have e7 := c7_kp r7 K (kN 3 (by decide))
  have e8 := c8_kp r8 K (kN 1 (by decide))
  have e2 := c2_kp r2 K (kN 7 (by decide)) (kN 100 (by decide))
  have rd : ∀ j (x y z : Int32), x = y → (if s = j then v else y) = z → (if q = q ∧ j = s then v else x) = z := fun j x y z hxy hz => by
    rw [← hz, hxy]
    by_cases hj : s = j
    · rw [if_pos hj, if_pos ⟨rfl, hj.symm⟩]
    · rw [if_neg hj, if_neg (fun q => hj q.2.symm)]
  refine ⟨⟨⟨r1.1, ?_, ?_, ?_, r1.2.2.2.2⟩, c2_eq e2 hl hx, ?_, c4_eq e4 hB (hm 7 (by decide) (by decide) (by decide)) (hm 8 (by decide) (by decide) (by decide)) (hm 9 (by decide) (by decide) (by decide)), ?_, ?_, c7_eq e7 hB hs (hm 22 (by decide) (by decide) (by decide)) (hm 23 (by decide) (by decide) (by decide)) (hm 24 (by decide) (by decide) (by decide)), c8_eq e8 he hw⟩, K.frC (fun a ha z => by rw [z, r1.1.2]; unfold kM; omega)⟩
  · rw [pI_I]; exact rd 6 _ _ _ r1.2.1 t2
  · rw [pI_I]; exact rd 7 _ _ _ r1.2.2.1 t1
  · rw [pI_I]; exact rd 8 _ _ _ r1.2.2.2.1 t30
  · unfold c3 at *
    rw [hr, hB, hm 4 (by decide) (by decide) (by decide), hm 5 (by decide) (by decide) (by decide), hm 6 (by decide) (by decide) (by decide)]; exact e3
  · unfold c5 at *
    rw [hB, hT, hm 13 (by decide) (by decide) (by decide), hm 14 (by decide) (by decide) (by decide), hm 15 (by decide) (by decide) (by decide), hm 16 (by decide) (by decide) (by decide), hm 17 (by decide) (by decide) (by decide), hm 18 (by decide) (by decide) (by decide), hm 19 (by decide) (by decide) (by decide), hm 20 (by decide) (by decide) (by decide)]; exact e5
  · unfold c6 at *
    rw [hr]; exact e6
theorem RC_sum (R : RC e0 S w q P LE LW) (hS : okS S) (v : Int32) : RC e0 (um S 30 0 v) (sI w q 8 v) q P LE LW ∧ FrC w (sI w q 8 v) :=
  RC_own R hS rfl rfl rfl rfl (fun _ => rfl) (fun _ => rfl) rfl rfl (fun k _ _ h30 => mm_um_ne S 0 v h30) (by rw [mm_um_ne S 0 v (by decide)]; rfl) (by rw [mm_um_ne S 0 v (by decide)]; rfl) (by rw [mm_um_at]; rfl)
theorem RC_time (R : RC e0 S w q P LE LW) (hS : okS S) (v : Int32) : RC e0 (um S 1 0 v) (sI w q 7 v) q P LE LW ∧ FrC w (sI w q 7 v) :=
  RC_own R hS rfl rfl rfl rfl (fun _ => rfl) (fun _ => rfl) rfl rfl (fun k h1 _ _ => mm_um_ne S 0 v h1) (by rw [mm_um_ne S 0 v (by decide)]; rfl) (by rw [mm_um_at]; rfl) (by rw [mm_um_ne S 0 v (by decide)]; rfl)
theorem RC_gap (R : RC e0 S w q P LE LW) (hS : okS S) (v : Int32) : RC e0 (um S 2 0 v) (sI w q 6 v) q P LE LW ∧ FrC w (sI w q 6 v) :=
  RC_own R hS rfl rfl rfl rfl (fun _ => rfl) (fun _ => rfl) rfl rfl (fun k _ h2 _ => mm_um_ne S 0 v h2) (by rw [mm_um_at]; rfl) (by rw [mm_um_ne S 0 v (by decide)]; rfl) (by rw [mm_um_ne S 0 v (by decide)]; rfl)
theorem C_out {b nc ns : Nat} {Q : Wd → Prop} (R : RC e0 S w q P LE LW) (hS : okS S) (hb : b < nB S) (he : (eds S).length < 4096) (hc : usC (outS S b) ≤ usC S + nc) (hs : usS (outS S b) ≤ usS S + ns)
    (hQ : ∀ w' P' LE', RC e0 (outS S b) w' q P' LE' LW → Pk P P' → FrC w w' → Q w') : wp_Br_letOut e0 mi q (some (P 0 b)) w nc ns Q := by
  have hbc := (R.2.2.1.1 b hb).1
  unfold wp_Br_letOut wb_Br_letOut_17
  refine ⟨P 0 b, rfl, hbc, C_atEnd R hS hb ?_⟩
  cases ha : atEndS S b with
  | none =>
    have hs' : outS S b = S := by unfold outS; rw [ha]
    exact ⟨fun _ => hQ w P LE (by rw [hs']; exact R) Pk.rfl FrC.rfl, fun z => absurd rfl z⟩
  | some i =>
    obtain ⟨t, ht, -⟩ := atEnd_some ha
    have him : i ∈ rr S b := by rw [ht]; exact List.mem_cons_self
    obtain ⟨-, i1, i2', i3, i4, i5, b8, i61⟩ := in_row hS him
    have hp : (rr S b)[0]? = some i := by rw [ht]; rfl
    refine ⟨fun z => absurd z (by simp), fun _ => ⟨hbc, C_wayOf R hS him ?_⟩⟩
    cases hg : goesS S b i with
    | some k =>
      have hs' : outS S b = S := by unfold outS; rw [ha]; simp only [hg]
      exact ⟨fun z => absurd z (by simp), fun _ => hQ w P LE (by rw [hs']; exact R) Pk.rfl FrC.rfl⟩
    | none =>
      have hout : outS S b = tellS (um (ug (um (ur S b ((rr S b).eraseIdx 0)) 13 i 1) (gos S ++ [i])) 30 0 (mm S 30 0 + (mm S 1 0 - mm S 20 i))) (mm S 1 0, 1, i, b) := by
        unfold outS; rw [ha]; simp only [hg]
      have ok1 := ok_leave hS hp (v := 1) (by decide)
      have hng : i ∉ gos S := fun z => by
        have := (hS.2.2.2.2.2.2.1.2 i z).2.2
        rw [i3] at this
        exact absurd this (by decide)
      have ok2 := ok_gone (i := i) ok1 i1 i2' (by rw [mm_um, if_pos ⟨rfl, rfl⟩]) hng
      rw [gos_um, gos_ur] at ok2
      have ok3 := ok_um ok2 (k := 30) (by unfold okSlot; decide) 0 (mm S 30 0 + (mm S 1 0 - mm S 20 i))
      have hg60 : (gos S).length ≤ 60 := by
        have := nodup_le (nT S) (gos S) hS.2.2.2.2.2.2.1.1 (fun i hi => ⟨(hS.2.2.2.2.2.2.1.2 i hi).1, (hS.2.2.2.2.2.2.1.2 i hi).2.1⟩)
        have := hS.1.2.1
        omega
      have ut := uC_tell (um (ug (um (ur S b ((rr S b).eraseIdx 0)) 13 i 1) (gos S ++ [i])) 30 0 (mm S 30 0 + (mm S 1 0 - mm S 20 i))) (mm S 1 0, 1, i, b)
      have ug' := uC_gone (um (ur S b ((rr S b).eraseIdx 0)) 13 i 1) i
      have u1 : usC (um (ug (um (ur S b ((rr S b).eraseIdx 0)) 13 i 1) (gos S ++ [i])) 30 0 (mm S 30 0 + (mm S 1 0 - mm S 20 i))) = usC S + gC (gos S).length (gos S).length := ug'.1
      have u2 : usS (um (ug (um (ur S b ((rr S b).eraseIdx 0)) 13 i 1) (gos S ++ [i])) 30 0 (mm S 30 0 + (mm S 1 0 - mm S 20 i))) = usS S + gS (gos S).length (gos S).length := ug'.2
      have ue' : eds (um (ug (um (ur S b ((rr S b).eraseIdx 0)) 13 i 1) (gos S ++ [i])) 30 0 (mm S 30 0 + (mm S 1 0 - mm S 20 i))) = eds S := by rw [eds_um, eds_ug, eds_um, eds_ur]
      rw [← hout, u1, u2, ue'] at ut
      rw [ut.1] at hc
      rw [ut.2] at hs
      refine ⟨fun _ => ⟨P 1 i, rfl, (R.2.2.2.2.1.1 i i1 i2').1, C_leave R hS hp (by decide) (fun w23 R1 F1 _ => ?_)⟩, fun z => absurd rfl z⟩
      refine ⟨R1.1.1, P 6 5, R1.1.2.2.2.2 5 (by decide), (R1.2.1.1 5 (by decide)).1, gC (gos S).length (gos S).length, gS (gos S).length (gos S).length, by omega, by omega, C_goneAdd R1 ok1 i1 i2' (by show (gos S).length < 4096; omega) (Nat.le_refl _) (Nat.le_refl _) (fun w33 d5 R2 F2 => ?_)⟩
      rw [gos_um, gos_ur] at R2
      have hP1 : Pn P 5 d5 1 = P 1 := Pn_o P 5 d5 (by decide)
      have hP0 : Pn P 5 d5 0 = P 0 := Pn_o P 5 d5 (by decide)
      have h5i := R2.2.2.2.2.1.1 i i1 i2'
      rw [hP1] at h5i
      refine ⟨R2.1.1, h5i.1, by omega, by omega, fun x hx w45 e45 => ?_⟩
      have v8 : wI w33 q 8 = mm S 30 0 := by rw [R2.1.2.2.2.1, mm_ug, mm_um_ne _ _ _ (by decide), mm_ur]
      have v7 : wI w33 q 7 = mm S 1 0 := by rw [R2.1.2.2.1, mm_ug, mm_um_ne _ _ _ (by decide), mm_ur]
      have v2 : wI w33 (P 1 i) 2 = mm S 20 i := by rw [h5i.2.2.2.1, mm_ug, mm_um_ne _ _ _ (by decide), mm_ur]
      rw [v8, v7, v2] at hx e45
      obtain ⟨R3, F3⟩ := RC_sum R2 ok2 (mm S 30 0 + (mm S 1 0 - mm S 20 i))
      have R4 : RC e0 _ w45 q (Pn P 5 d5) LE LW := RC_kp R3 ok3 (X := fun _ => False) (by rw [e45]; exact Kp.rfl.new hx) (fun a ci ha z => False.elim z)
      have hb4 := R4.2.2.1.1 b hb
      have h5i4 := R4.2.2.2.2.1.1 i i1 i2'
      rw [hP0] at hb4
      rw [hP1] at h5i4
      refine ⟨hb4.1, C_newEdge (v0 := wI w45 q 7) (k := 1) (i := i) (o := b) R3 ok3 hx e45 rfl h5i4.2.1 hb4.2.1 (fun w49 R5 hE F5 _ => ?_)⟩
      have v7' : wI w45 q 7 = mm S 1 0 := by rw [R4.1.2.2.1, mm_um_ne _ _ _ (by decide), mm_ug, mm_um_ne _ _ _ (by decide), mm_ur]
      rw [v7'] at hE
      refine ⟨R5.1.1, gC (eds S).length (eds S).length, gS (eds S).length (eds S).length, by omega, by omega, C_tell R5 ok3 hE (by rw [ue']; exact he) (by rw [ue']; exact Nat.le_refl _) (by rw [ue']; exact Nat.le_refl _) (fun w57 d3 R6 F6 => ?_)⟩
      rw [← hout] at R6
      exact hQ w57 _ _ R6 ((Pk_n P 5 d5).trans (Pk_n _ 3 d3)) ((((F1.trans F2).trans F3).trans F5).trans F6)
end CL
