/-! THE CLASS: a second -/
theorem part_len (T : Int32) : ∀ l : List Ed, (l.filter (dueF T)).length + (l.filter (kepF T)).length = l.length
  | [] => rfl
  | e :: t => by
    have ih := part_len T t
    by_cases h : e.1 = T
    · have h1 : dueF T e = true := by unfold dueF; exact decide_eq_true h
      have h2 : kepF T e = false := by unfold kepF; exact decide_eq_false (fun q => q h)
      simp only [List.filter_cons, h1, h2, if_true, List.length_cons]
      simp
      omega
    · have h1 : dueF T e = false := by unfold dueF; exact decide_eq_false h
      have h2 : kepF T e = true := by unfold kepF; exact decide_eq_true h
      simp only [List.filter_cons, h1, h2, if_true, List.length_cons]
      simp
      omega
theorem eds_read (S : St) : eds (readS S) = eds S ++ (wts S).filter (dueF (mm S 1 0)) := (rfl)
theorem wts_read (S : St) : wts (readS S) = (wts S).filter (kepF (mm S 1 0)) := (rfl)
theorem uC_read (S : St) : usC (readS S) + cc (eds S).length = usC S + cc (eds (readS S)).length ∧ usS (readS S) + cs (eds S).length = usS S + cs (eds (readS S)).length := by
  have h1 : (eds (readS S)).length + (wts (readS S)).length = (eds S).length + (wts S).length := by
    rw [eds_read, wts_read, List.length_append]
    have := part_len (mm S 1 0) (wts S)
    omega
  refine ⟨?_, ?_⟩
  · show (3 * nB S + nT S + nS S + (eds (readS S)).length + (wts (readS S)).length + cc (nB S) + cc (nT S) + cc (nS S) + cc (eds (readS S)).length + cc (wX S) + cc (gos S).length) + _ = (3 * nB S + nT S + nS S + (eds S).length + (wts S).length + cc (nB S) + cc (nT S) + cc (nS S) + cc (eds S).length + cc (wX S) + cc (gos S).length) + _
    omega
  · show (15 * nB S + 11 * nT S + 4 * nS S + 4 * (eds (readS S)).length + 4 * (wts (readS S)).length + cs (nB S) + cs (nT S) + cs (nS S) + cs (eds (readS S)).length + cs (wX S) + cs (gos S).length) + _ = (15 * nB S + 11 * nT S + 4 * nS S + 4 * (eds S).length + 4 * (wts S).length + cs (nB S) + cs (nT S) + cs (nS S) + cs (eds S).length + cs (wX S) + cs (gos S).length) + _
    omega
theorem cc_mono : ∀ (d n : Nat), cc n ≤ cc (n + d) ∧ cs n ≤ cs (n + d)
  | 0, n => ⟨Nat.le_refl _, Nat.le_refl _⟩
  | d + 1, n => by
    have h1 := cc_mono d n
    have h2 : cc (n + (d + 1)) = cc (n + d) + gC (n + d) (n + d) := rfl
    have h3 : cs (n + (d + 1)) = cs (n + d) + gS (n + d) (n + d) := rfl
    omega
theorem uC_read_le (S : St) : usC S ≤ usC (readS S) ∧ usS S ≤ usS (readS S) := by
  have h := uC_read S
  have h2 := cc_mono ((eds (readS S)).length - (eds S).length) (eds S).length
  have h3 : (eds S).length ≤ (eds (readS S)).length := by rw [eds_read, List.length_append]; omega
  rw [show (eds S).length + ((eds (readS S)).length - (eds S).length) = (eds (readS S)).length by omega] at h2
  omega
theorem uC_out (S : St) (b : Nat) : usC S ≤ usC (outS S b) ∧ usS S ≤ usS (outS S b) := by
  unfold outS
  cases ha : atEndS S b with
  | none => exact ⟨Nat.le_refl _, Nat.le_refl _⟩
  | some i => cases hg : goesS S b i with
    | some k => simp only [hg]; exact ⟨Nat.le_refl _, Nat.le_refl _⟩
    | none =>
      simp only [hg]
      have ut := uC_tell (um (ug (um (ur S b ((rr S b).eraseIdx 0)) 13 i 1) (gos S ++ [i])) 30 0 (mm S 30 0 + (mm S 1 0 - mm S 20 i))) (mm S 1 0, 1, i, b)
      have ug' := uC_gone (um (ur S b ((rr S b).eraseIdx 0)) 13 i 1) i
      have u1 : usC (um (ug (um (ur S b ((rr S b).eraseIdx 0)) 13 i 1) (gos S ++ [i])) 30 0 (mm S 30 0 + (mm S 1 0 - mm S 20 i))) = usC S + gC (gos S).length (gos S).length := ug'.1
      have u2 : usS (um (ug (um (ur S b ((rr S b).eraseIdx 0)) 13 i 1) (gos S ++ [i])) 30 0 (mm S 30 0 + (mm S 1 0 - mm S 20 i))) = usS S + gS (gos S).length (gos S).length := ug'.2
      rw [u1, u2] at ut
      omega
theorem uC_pass (S : St) (b : Nat) : usC S ≤ usC (passS S b) ∧ usS S ≤ usS (passS S b) := by
  unfold passS
  by_cases hz : 0 < missS S b
  · rw [if_pos hz]; exact ⟨Nat.le_refl _, Nat.le_refl _⟩
  · rw [if_neg hz]
    cases hg : giverS S b b with
    | none => exact ⟨Nat.le_refl _, Nat.le_refl _⟩
    | some k => cases hr : rr S (k / 2) with
      | nil => simp only [hr]; exact ⟨Nat.le_refl _, Nat.le_refl _⟩
      | cons j t =>
        simp only [hr]
        have ut := uC_tell (comeS (um (ur S (k / 2) t) 9 k (mm S 9 k + 1)) j b) (mm S 1 0, 2, j, b)
        have u1 : usC (comeS (um (ur S (k / 2) t) 9 k (mm S 9 k + 1)) j b) = usC S := rfl
        have u2 : usS (comeS (um (ur S (k / 2) t) 9 k (mm S 9 k + 1)) j b) = usS S := rfl
        rw [u1, u2] at ut
        omega
theorem wX_out (S : St) (b : Nat) : wX (outS S b) = wX S := by
  unfold outS
  cases ha : atEndS S b with
  | none => rfl
  | some i => cases hg : goesS S b i with
    | none => simp only [hg] <;> rfl
    | some k => simp only [hg] <;> rfl
theorem wX_pass (S : St) (b : Nat) : wX (passS S b) = wX S := by
  unfold passS
  by_cases hz : 0 < missS S b
  · rw [if_pos hz]
  · rw [if_neg hz]
    cases hg : giverS S b b with
    | none => rfl
    | some k => cases hr : rr S (k / 2) with
      | nil => simp only [hr] <;> rfl
      | cons j t => simp only [hr] <;> rfl
theorem uC_exch (S : St) (b : Nat) : usC S ≤ usC (exchS S b) ∧ usS S ≤ usS (exchS S b) ∧ wX (exchS S b) = wX S := by
  have h1 := uC_out S b
  have h2 := uC_pass (outS S b) b
  unfold exchS
  exact ⟨by omega, by omega, by rw [wX_pass, wX_out]⟩
theorem uC_exAll : ∀ (n : Nat) (S : St), usC S ≤ usC (exAllS S n) ∧ usS S ≤ usS (exAllS S n) ∧ wX (exAllS S n) = wX S
  | 0, S => ⟨Nat.le_refl _, Nat.le_refl _, rfl⟩
  | n + 1, S => by
    by_cases hz : mm S 6 n = 0
    · rw [exAll_no hz]; exact uC_exAll n S
    · rw [exAll_go hz]
      have h1 := uC_exch S n
      have h2 := uC_exAll n (exchS S n)
      exact ⟨by omega, by omega, by rw [h2.2.2, h1.2.2]⟩
theorem uC_mvAll {S : St} (hw : (wts S).length ≤ wX S) : ∀ (n : Nat), (wts (mvAllS S n)).length ≤ wX (mvAllS S n) ∧ usC S ≤ usC (mvAllS S n) ∧ usS S ≤ usS (mvAllS S n)
  | 0 => ⟨hw, Nat.le_refl _, Nat.le_refl _⟩
  | n + 1 => by
    have h1 := uC_mvAll hw n
    by_cases hz : mm (mvAllS S n) 6 n = 0
    · rw [mvAll_no hz]; exact h1
    · rw [mvAll_go hz]
      have h2 := uC_mvL (b := n) (rr (mvAllS S n) n) (mvAllS S n) none h1.1
      unfold moveS
      exact ⟨h2.2.2, by omega, by omega⟩
theorem uC_mvStep {S : St} (hw : (wts S).length ≤ wX S) : ∀ (d n : Nat), usC (mvAllS S n) ≤ usC (mvAllS S (n + d)) ∧ usS (mvAllS S n) ≤ usS (mvAllS S (n + d))
  | 0, n => ⟨Nat.le_refl _, Nat.le_refl _⟩
  | d + 1, n => by
    have h0 := uC_mvStep hw d n
    rw [← Nat.add_assoc]
    have h1 := uC_mvAll hw (n + d)
    by_cases hz : mm (mvAllS S (n + d)) 6 (n + d) = 0
    · rw [mvAll_no hz]; exact h0
    · rw [mvAll_go hz]
      have h2 := uC_mvL (b := n + d) (rr (mvAllS S (n + d)) (n + d)) (mvAllS S (n + d)) none h1.1
      unfold moveS
      omega
section CL
variable {e0 mi q : Nat} {P : Nat → Nat → Nat} {S : St} {w : Wd} {LE LW : List (Nat × Ed)}
theorem C_tellReads {nc ns : Nat} {Q : Wd → Prop} (R : RC e0 S w q P LE LW) (hS : okS S) (hl : (eds (readS S)).length < 4096) (hl2 : (wts S).length < 4096) (hc : usC (readS S) ≤ usC S + nc) (hs : usS (readS S) ≤ usS S + ns)
    (hQ : ∀ w' P' LE' LW', RC e0 (readS S) w' q P' LE' LW' → Pk P P' → FrC w w' → Q w') : wp_Br_tellReads e0 mi q w nc ns Q := by
  obtain ⟨hE, hW, -, -⟩ := R.2.2.2.2.2.2.2
  have hlW : LW.length = (wts S).length := by rw [← hW]; simp
  have fd : (LW.filter (dueP (mm S 1 0))).map Prod.snd = (wts S).filter (dueF (mm S 1 0)) := by rw [← hW, List.filter_map]; rfl
  have fk : (LW.filter (kepP (mm S 1 0))).map Prod.snd = (wts S).filter (kepF (mm S 1 0)) := by rw [← hW, List.filter_map]; rfl
  have eE : (LE ++ LW.filter (dueP (mm S 1 0))).map Prod.snd = eds (readS S) := by rw [List.map_append, hE, fd, eds_read]
  have lE : (LE ++ LW.filter (dueP (mm S 1 0))).length = (eds (readS S)).length := by rw [← eE]; simp
  have lE0 : LE.length = (eds S).length := by rw [← hE]; simp
  have ur' := uC_read S
  unfold wp_Br_tellReads
  refine ⟨R.1.1, C_size R (k := 4) (by decide) ⟨LW.length + 1, ?_⟩⟩
  have hl4 : (lsx S P LE LW 4).length = LW.length := by show (LW.map Prod.fst).length = _; simp
  rw [hl4]
  have G := C_reads (e0 := e0) (mi := mi) (q := q) (S := S) (LE := LE) (LW := LW) (P0 := P) (w0 := w) (Q := Q) hS hE hW (by rw [lE]; exact hl) (by rw [hlW]; exact hl2) ?_ LW.length 0 w P nc ns (by omega) ?_ Pk.rfl FrC.rfl ?_ ?_
  · exact G
  · intro w' P' R' hP' F'
    have : uw (ue S ((LE ++ LW.filter (dueP (mm S 1 0))).map Prod.snd)) ((LW.filter (kepP (mm S 1 0))).map Prod.snd) (wX S) = readS S := by rw [eE, fk]; rfl
    rw [this] at R'
    exact hQ w' P' _ _ R' hP' F'
  · rw [List.take_zero, List.filter_nil, List.filter_nil, List.append_nil, List.nil_append, List.length_nil, List.drop_zero, hE, hW]
    exact R
  · rw [List.take_zero, List.filter_nil, List.append_nil, lE, lE0]; omega
  · rw [List.take_zero, List.filter_nil, List.append_nil, lE, lE0]; omega
theorem C_mvAll {P0 : Nat → Nat → Nat} {w0 : Wd} {Q : Wd → Prop} (hS : okS S) (hw : (wts S).length ≤ wX S) (hwt : (wts (mvAllS S (nB S))).length < 4096)
    (hQ : ∀ w' P' LW', RC e0 (mvAllS S (nB S)) w' q P' LE LW' → Pk P0 P' → FrC w0 w' → Q w') : ∀ (n k : Nat) (w : Wd) (P : Nat → Nat → Nat) (LW : List (Nat × Ed)) (nc ns : Nat), k + n = nB S → RC e0 (mvAllS S k) w q P LE LW → Pk P0 P → FrC w0 w → usC (mvAllS S (nB S)) ≤ usC (mvAllS S k) + nc → usS (mvAllS S (nB S)) ≤ usS (mvAllS S k) + ns → wb_Br_passSecond_65 e0 mi Q (n + 1) q (nI k) w nc ns := by
  have hb8 := hS.1.1
  intro n
  induction n with
  | zero =>
    intro k w P LW nc ns hk R hP F hc hs
    have hkk : k = nB S := by omega
    subst hkk
    unfold wb_Br_passSecond_65
    refine ⟨R.1.1, C_size R (k := 0) (by decide) ?_⟩
    rw [lsx0, (nB_mvAll S (nB S)).1]
    exact ⟨fun _ => hQ w P LW R hP F, fun z => absurd (nI_le (Nat.le_refl _) (by omega)) z⟩
  | succ n ih =>
    intro k w P LW nc ns hk R hP F hc hs
    have hkB : k < nB (mvAllS S k) := by rw [(nB_mvAll S k).1]; omega
    have okk := ok_mvAll hS k
    have h3 := R.2.2.1.1 k hkB
    unfold wb_Br_passSecond_65
    refine ⟨R.1.1, C_size R (k := 0) (by decide) ?_⟩
    rw [lsx0, (nB_mvAll S k).1]
    have next : ∀ (u : Wd) (P' : Nat → Nat → Nat) (LW' : List (Nat × Ed)) (r : Option Nat) (nc' ns' : Nat), RC e0 (mvAllS S (k + 1)) u q P' LE LW' → Pk P0 P' → FrC w0 u → usC (mvAllS S (nB S)) ≤ usC (mvAllS S (k + 1)) + nc' → usS (mvAllS S (nB S)) ≤ usS (mvAllS S (k + 1)) + ns' → wb_Br_passSecond_100 e0 mi (wb_Br_passSecond_65 e0 mi Q (n + 1)) Q q (nI k) r u nc' ns' := fun u P' LW' r nc' ns' Ru hPu Fu hcu hsu => by
      unfold wb_Br_passSecond_100
      intro i1 e1
      rw [e1, nI_1]
      exact ih (k + 1) u P' LW' nc' ns' (by omega) Ru hPu Fu hcu hsu
    refine ⟨fun z => absurd z (nI_ge (by omega) (by omega)), fun _ => ⟨R.1.1, P 6 0, R.1.2.2.2.2 0 (by decide), (R.2.1.1 0 (by decide)).1, C_beltAt R hkB ⟨fun a ha => (by cases ha; exact h3.1), P 0 k, rfl, h3.1, ?_⟩⟩⟩
    rw [h3.2.2.2.2.1]
    have mono := uC_mvStep hw (nB S - (k + 1)) (k + 1)
    rw [show k + 1 + (nB S - (k + 1)) = nB S by omega] at mono
    have mono0 := uC_mvStep hw 1 k
    refine ⟨fun z => ?_, fun z => ⟨R.1.1, usC (mvAllS S (k + 1)) - usC (mvAllS S k), usS (mvAllS S (k + 1)) - usS (mvAllS S k), by omega, by omega, ?_⟩⟩
    · have e1 := mvAll_no z
      exact next w P LW _ nc ns (by rw [e1]; exact R) hP F (by rw [e1]; exact hc) (by rw [e1]; exact hs)
    · have e1 := mvAll_go z
      have hw1 : (wts (moveS (mvAllS S k) k)).length < 4096 := by
        rw [← e1]
        have := wts_mvAll S (nB S - (k + 1)) (k + 1)
        rw [show k + 1 + (nB S - (k + 1)) = nB S by omega] at this
        omega
      refine C_move R okk hkB hw1 (by rw [← e1]; omega) (by rw [← e1]; omega) (fun w' P' LW' R' hP' F' => next w' P' LW' _ _ _ (by rw [e1]; exact R') (hP.trans hP') (F.trans F') (by omega) (by omega))
end CL
