/-! STEPS, OF BOTH -/
theorem eds_mvL (b : Nat) : ∀ (l : List Nat) (U : St) (p : Option Nat), eds (mvLS U b p l) = eds U
  | [], U, p => rfl
  | i :: t, U, p => by unfold mvLS; rw [eds_mvL b t]; rfl
theorem eds_mvAll (T : St) : ∀ n, eds (mvAllS T n) = eds T
  | 0 => rfl
  | n + 1 => by
    by_cases hz : mm (mvAllS T n) 6 n = 0
    · rw [mvAll_no hz]; exact eds_mvAll T n
    · rw [mvAll_go hz]; unfold moveS; rw [eds_mvL]; exact eds_mvAll T n
theorem ok_sec {S : St} (h : okS S) : okS (secS S) ∧ nB (secS S) = nB S := by
  have okr := ok_read (ok_tick h)
  have h1 := ok_exAll (nB S) (readS (tickS S)) okr (Nat.le_refl _)
  unfold secS
  exact ⟨ok_mvAll h1.1 (nB S), (nB_mvAll _ _).1.trans h1.2⟩
theorem ok_steps {S : St} (h : okS S) : ∀ n, okS (stepsS S n) ∧ nB (stepsS S n) = nB S
  | 0 => ⟨h, rfl⟩
  | n + 1 => by
    have h1 := ok_steps h n
    have h2 := ok_sec h1.1
    exact ⟨h2.1, h2.2.trans h1.2⟩
theorem uC_sec {S : St} (hw : (wts S).length ≤ wX S) : usC S ≤ usC (secS S) ∧ usS S ≤ usS (secS S) ∧ (wts (secS S)).length ≤ wX (secS S) := by
  have u1 := uC_read_le (tickS S)
  have u0 : usC (tickS S) = usC S := rfl
  have u0' : usS (tickS S) = usS S := rfl
  rw [u0, u0'] at u1
  have u2 := uC_exAll (nB S) (readS (tickS S))
  have hwr : (wts (readS (tickS S))).length ≤ wX (readS (tickS S)) := by
    rw [wts_read]
    show _ ≤ wX S
    refine Nat.le_trans (List.length_filter_le _ _) hw
  have hlw : wts (exAllS (readS (tickS S)) (nB S)) = wts (readS (tickS S)) := (eds_exAll (nB S) (readS (tickS S))).2.1
  have u3 := uC_mvAll (S := exAllS (readS (tickS S)) (nB S)) (by rw [hlw, u2.2.2]; exact hwr) (nB S)
  unfold secS
  exact ⟨by omega, by omega, u3.1⟩
theorem uC_steps {S : St} (hw : (wts S).length ≤ wX S) : ∀ n, (wts (stepsS S n)).length ≤ wX (stepsS S n)
  | 0 => hw
  | n + 1 => (uC_sec (uC_steps hw n)).2.2
theorem uC_stepsM {S : St} (hw : (wts S).length ≤ wX S) : ∀ (d n : Nat), usC (stepsS S n) ≤ usC (stepsS S (n + d)) ∧ usS (stepsS S n) ≤ usS (stepsS S (n + d))
  | 0, n => ⟨Nat.le_refl _, Nat.le_refl _⟩
  | d + 1, n => by
    have h1 := uC_stepsM hw d n
    have h2 := uC_sec (uC_steps hw (n + d))
    have e : stepsS S (n + (d + 1)) = secS (stepsS S (n + d)) := rfl
    rw [e]
    omega
/-- never too many edges, in all these seconds -/
def fewS (S : St) (n : Nat) : Prop := ∀ j, j ≤ n → (eds (stepsS S j)).length + (wts (stepsS S j)).length < 2900
section CL
variable {e0 mi q : Nat} {S : St}
theorem C_steps_l {P0 : Nat → Nat → Nat} {w0 : Wd} {k : Nat} {Q : Int32 → Wd → Prop} {X : String → Wd → Prop} (hS : okS S) (hw : (wts S).length ≤ wX S) (hf : fewS S k) (hk : k ≤ 100)
    (hQ : ∀ w' P' LE' LW', RC e0 (stepsS S k) w' q P' LE' LW' → Pk P0 P' → FrC w0 w' → Q (nI (eds (stepsS S k)).length - nI (eds S).length) w') : ∀ (n j : Nat) (w : Wd) (P : Nat → Nat → Nat) (LE LW : List (Nat × Ed)) (nc ns : Nat), j + n = k → RC e0 (stepsS S j) w q P LE LW → Pk P0 P → FrC w0 w → usC (stepsS S k) ≤ usC (stepsS S j) + nc → usS (stepsS S k) ≤ usS (stepsS S j) + ns → wb_Br_step_17 e0 mi Q X (n + 1) q (nI k) (nI (eds S).length) (nI j) w nc ns := by
  intro n
  induction n with
  | zero =>
    intro j w P LE LW nc ns hj R hP F hc hs
    have hjk : j = k := by omega
    subst hjk
    unfold wb_Br_step_17
    refine ⟨fun _ => ⟨R.1.1, C_size R (k := 3) (by decide) ?_⟩, fun z => absurd (nI_le (Nat.le_refl _) (by omega)) z⟩
    have : (lsx (stepsS S j) P LE LW 3).length = (eds (stepsS S j)).length := (LE_len R).1
    rw [this]
    exact hQ w P LE LW R hP F
  | succ n ih =>
    intro j w P LE LW nc ns hj R hP F hc hs
    have okj := (ok_steps hS j).1
    have f1 := hf j (by omega)
    have f2 := hf (j + 1) (by omega)
    have e1 : stepsS S (j + 1) = secS (stepsS S j) := rfl
    rw [e1] at f2
    have m1 := uC_sec (uC_steps hw j)
    have m2 := uC_stepsM hw (k - (j + 1)) (j + 1)
    rw [show j + 1 + (k - (j + 1)) = k by omega, e1] at m2
    have hE : (eds (exAllS (readS (tickS (stepsS S j))) (nB (stepsS S j)))).length < 4096 := by
      have : eds (secS (stepsS S j)) = eds (exAllS (readS (tickS (stepsS S j))) (nB (stepsS S j))) := by unfold secS; rw [eds_mvAll]
      rw [← this]; omega
    unfold wb_Br_step_17
    refine ⟨fun z => absurd z (nI_ge (by omega) (by omega)), fun _ => ⟨R.1.1, usC (secS (stepsS S j)) - usC (stepsS S j), usS (secS (stepsS S j)) - usS (stepsS S j), by omega, by omega, C_sec R okj (by omega) (by omega) (by omega) hE (by omega) (by omega) (fun w' P' LE' LW' R' hP' F' i20 e20 => ?_)⟩⟩
    rw [e20, nI_1]
    exact ih (j + 1) w' P' LE' LW' _ _ (by omega) R' (hP.trans hP') (F.trans F') (by rw [e1]; omega) (by rw [e1]; omega)
end CL
section MO
variable {e0 mi m : Nat} {A : Nat → Nat} {S : St}
theorem M_steps_l {w0 : Wd} {k : Nat} {Q : Int32 → Wd → Prop} (hS : okS S) (hf : fewS S k) (hk : k ≤ 100)
    (hQ : ∀ w', RM (stepsS S k) w' m A → FM m A w0 w' → Q (nI (eds (stepsS S k)).length - nI (eds S).length) w') : ∀ (n j : Nat) (w : Wd), j + n = k → RM (stepsS S j) w m A → FM m A w0 w → wb_Mo_step_35 e0 mi Q (n + 1) m (nI k) (nI (eds S).length) (nI j) w := by
  intro n
  induction n with
  | zero =>
    intro j w hj R F
    have hjk : j = k := by omega
    subst hjk
    unfold wb_Mo_step_35
    refine ⟨fun _ => ⟨R.1.1, ?_⟩, fun z => absurd (nI_le (Nat.le_refl _) (by omega)) z⟩
    have l27 : wI w m 27 = nI (eds (stepsS S j)).length := R.2.2.1.2.2.2.2.1
    rw [l27]
    exact hQ w R F
  | succ n ih =>
    intro j w hj R F
    have okj := (ok_steps hS j).1
    have f1 := hf j (by omega)
    have f2 := hf (j + 1) (by omega)
    have e1 : stepsS S (j + 1) = secS (stepsS S j) := rfl
    rw [e1] at f2
    refine M_sec okj R F (by omega) (by omega) (by omega) (fun w' R' F' i3 e3 => ?_) (nI_ge (by omega) (by omega))
    rw [e3, nI_1]
    exact ih (j + 1) w' (by omega) R' F'
theorem M_step {w : Wd} {x1 : Int32} {Q : Int32 → Wd → Prop} (h : RM S w m A) (hS : okS S) (h1 : ¬ rng x1 0 100 → Q 0 (sI w m 0 1)) (hf : ∀ k, k ≤ 100 → x1 = nI k → fewS S k)
    (h0 : ∀ k, k ≤ 100 → x1 = nI k → ∀ w', RM (stepsS S k) w' m A → FM m A (sI w m 0 0) w' → Q (nI (eds (stepsS S k)).length - nI (eds S).length) w') : wp_Mo_step e0 mi m x1 w Q := by
  have hm := h.1.1
  unfold wp_Mo_step wb_Mo_step_16
  refine mo_in (fun z => ⟨fun z => absurd z (by decide), fun _ => ⟨m, rfl, hm, hm, fun _ i5 e5 => ?_, fun z => absurd (by rw [cd_e]; decide) z⟩⟩) (fun z => ⟨fun _ => ⟨m, rfl, hm, hm, fun z => absurd z (cd_1 w m), fun _ => h1 z⟩, fun z => absurd rfl z⟩)
  have R0 := RM_code h 0
  have l27 : wI (sI w m 0 0) m 27 = nI (eds S).length := R0.2.2.1.2.2.2.2.1
  rw [l27] at e5
  subst e5
  obtain ⟨k, hk, hx⟩ := nI_of2 (M := 100) (n := 100) (by decide) z.1 (Int32.not_lt.mp z.2)
  subst hx
  exact ⟨k + 1, M_steps_l (w0 := sI w m 0 0) hS (hf k hk rfl) hk (h0 k hk rfl) k 0 _ (by omega) R0 FM.rfl⟩
end MO
