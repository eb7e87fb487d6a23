/-! SECONDS, OF BOTH -/
section CL
variable {e0 mi q : Nat}
theorem C_exAll {P0 : Nat → Nat → Nat} {w0 : Wd} {Q : Wd → Prop} : ∀ (n : Nat) (S : St) (w : Wd) (P : Nat → Nat → Nat) (LE LW : List (Nat × Ed)) (nc ns : Nat), okS S → n ≤ nB S → (wts S).length ≤ wX S → (eds (exAllS S n)).length < 4096 → (wts (mvAllS (exAllS S n) (nB S))).length < 4096 →
    (∀ w' P' LE' LW', RC e0 (mvAllS (exAllS S n) (nB S)) w' q P' LE' LW' → Pk P0 P' → FrC w0 w' → Q w') → RC e0 S w q P LE LW → Pk P0 P → FrC w0 w → usC (mvAllS (exAllS S n) (nB S)) ≤ usC S + nc → usS (mvAllS (exAllS S n) (nB S)) ≤ usS S + ns → wb_Br_passSecond_24 e0 mi Q (n + 1) q (nI n + (-1)) w nc ns := by
  intro n
  induction n with
  | zero =>
    intro S w P LE LW nc ns hS hn hw he hwt hQ R hP F hc hs
    unfold wb_Br_passSecond_24
    have hb8 := hS.1.1
    refine ⟨fun _ => ⟨nB S + 1, ?_⟩, fun z => absurd (by decide) z⟩
    exact C_mvAll (P0 := P0) (w0 := w0) hS hw hwt (fun w' P' LW' R' hP' F' => hQ w' P' LE LW' R' hP' F') (nB S) 0 w P LW nc ns (by omega) R hP F hc hs
  | succ n ih =>
    intro S w P LE LW nc ns hS hn hw he hwt hQ R hP F hc hs
    have hb8 := hS.1.1
    have hnB : n < nB S := by omega
    have h3 := R.2.2.1.1 n hnB
    unfold wb_Br_passSecond_24
    rw [pk_m1]
    refine ⟨fun z => absurd z (nI_pos (by omega)), fun _ => ⟨R.1.1, P 6 0, R.1.2.2.2.2 0 (by decide), (R.2.1.1 0 (by decide)).1, C_beltAt R hnB ⟨fun a ha => (by cases ha; exact h3.1), P 0 n, rfl, h3.1, ?_⟩⟩⟩
    rw [h3.2.2.2.2.1]
    refine ⟨fun z => ?_, fun z => ⟨R.1.1, usC (outS S n) - usC S, usS (outS S n) - usS S, ?_⟩⟩
    · have e1 := exAll_no z
      rw [e1] at he hwt hQ hc hs
      unfold wb_Br_passSecond_57
      intro i1 ei1
      rw [ei1]
      exact ih S w P LE LW nc ns hS (by omega) hw he hwt hQ R hP F hc hs
    · have e1 := exAll_go z
      rw [e1] at he hwt hQ hc hs
      have u1 := uC_out S n
      have u2 := uC_pass (outS S n) n
      have u3 := uC_exAll n (exchS S n)
      have hlw : wts (exAllS (exchS S n) n) = wts S := by rw [(eds_exAll n (exchS S n)).2.1, (eds_exch S n).2.1]
      have hwx : wX (exAllS (exchS S n) n) = wX S := by rw [u3.2.2, (uC_exch S n).2.2]
      have u4 := uC_mvAll (S := exAllS (exchS S n) n) (by rw [hlw, hwx]; exact hw) (nB S)
      have ee : exchS S n = passS (outS S n) n := rfl
      rw [← ee] at u2
      have l1 := eds_out S n
      have l2 := (eds_pass (outS S n) n).1
      rw [← ee] at l2
      have l3 := (eds_exAll n (exchS S n)).1
      have okO := ok_out hS hnB
      refine ⟨by omega, by omega, C_out R hS hnB (by omega) (by omega) (by omega) (fun w20 P1 LE1 R1 hP1 F1 => ?_)⟩
      refine ⟨R1.1.1, usC (exchS S n) - usC (outS S n), usS (exchS S n) - usS (outS S n), by omega, by omega, ?_⟩
      have hP10 : P1 0 = P 0 := hP1 0 (by decide)
      rw [← hP10]
      refine C_pass R1 okO (by rw [nB_out]; exact hnB) (by omega) (by rw [← ee]; omega) (by rw [← ee]; omega) (fun w28 P2 LE2 R2 hP2 F2 => ?_)
      unfold wb_Br_passSecond_57
      intro i1 ei1
      rw [ei1]
      refine ih (exchS S n) w28 P2 LE2 LW _ _ (ok_exch hS hnB) (by rw [nB_exch]; omega) (by rw [(eds_exch S n).2.1, (uC_exch S n).2.2]; exact hw) he ?_ ?_ R2 ((hP.trans hP1).trans hP2) ((F.trans F1).trans F2) ?_ ?_
      · rw [nB_exch]; exact hwt
      · rw [nB_exch]; exact hQ
      · rw [nB_exch]; omega
      · rw [nB_exch]; omega
variable {P : Nat → Nat → Nat} {S : St} {w : Wd} {LE LW : List (Nat × Ed)}
theorem C_sec {nc ns : Nat} {Q : Wd → Prop} (R : RC e0 S w q P LE LW) (hS : okS S) (h1 : (eds S).length + (wts S).length < 3000) (h2 : (eds (secS S)).length < 4096) (h3 : (wts (secS S)).length < 4096) (hE : (eds (exAllS (readS (tickS S)) (nB S))).length < 4096) (hc : usC (secS S) ≤ usC S + nc) (hs : usS (secS S) ≤ usS S + ns)
    (hQ : ∀ w' P' LE' LW', RC e0 (secS S) w' q P' LE' LW' → Pk P P' → FrC w w' → Q w') : wp_Br_passSecond e0 mi q w nc ns Q := by
  have hw := wx_ge R
  unfold wp_Br_passSecond
  rw [R.1.2.2.1]
  obtain ⟨R1, F1⟩ := RC_time R hS (mm S 1 0 + 1)
  have ok1 := ok_tick hS
  have okr := ok_read ok1
  have u1 := uC_read_le (tickS S)
  have u0 : usC (tickS S) = usC S := rfl
  have u0' : usS (tickS S) = usS S := rfl
  rw [u0, u0'] at u1
  have u2 := uC_exAll (nB S) (readS (tickS S))
  have hwr : (wts (readS (tickS S))).length ≤ wX (readS (tickS S)) := by
    rw [wts_read]
    show _ ≤ wX S
    refine Nat.le_trans (List.length_filter_le _ _) hw
  have hlw : wts (exAllS (readS (tickS S)) (nB S)) = wts (readS (tickS S)) := (eds_exAll (nB S) (readS (tickS S))).2.1
  have u3 := uC_mvAll (S := exAllS (readS (tickS S)) (nB S)) (by rw [hlw, u2.2.2]; exact hwr) (nB S)
  have es : secS S = mvAllS (exAllS (readS (tickS S)) (nB S)) (nB S) := rfl
  rw [← es] at u3
  have lr : (eds (readS (tickS S))).length < 4096 := by
    rw [eds_read, List.length_append]
    have := List.length_filter_le (dueF (mm (tickS S) 1 0)) (wts (tickS S))
    show (eds S).length + _ < 4096
    have e : wts (tickS S) = wts S := rfl
    rw [e] at this ⊢
    omega
  refine ⟨R.1.1, usC (readS (tickS S)) - usC S, usS (readS (tickS S)) - usS S, by omega, by omega, C_tellReads (S := tickS S) R1 ok1 lr (by show (wts S).length < 4096; omega) (by rw [u0]; omega) (by rw [u0']; omega) (fun w3 P1 LE1 LW1 R2 hP1 F2 => ⟨R2.1.1, C_size R2 (k := 0) (by decide) (fun i19 e19 => ⟨nB S + 1, ?_⟩)⟩)⟩
  rw [lsx0] at e19
  have e19' : i19 = nI (nB S) + (-1) := by rw [e19, Int32.sub_eq_add_neg]; rfl
  rw [e19']
  exact C_exAll (P0 := P) (w0 := w) (nB S) (readS (tickS S)) w3 P1 LE1 LW1 _ _ okr (Nat.le_refl _) hwr hE h3 hQ R2 hP1 (F1.trans F2) (show usC (secS S) ≤ usC (readS (tickS S)) + (nc - (usC (readS (tickS S)) - usC S)) by omega) (show usS (secS S) ≤ usS (readS (tickS S)) + (ns - (usS (readS (tickS S)) - usS S)) by omega)
end CL
