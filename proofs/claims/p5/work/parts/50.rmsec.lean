/-! THE REFERENCE: a second, and many -/
theorem eds_out (S : St) (b : Nat) : (eds S).length ≤ (eds (outS S b)).length ∧ (eds (outS S b)).length ≤ (eds S).length + 1 ∧ wts (outS S b) = wts S ∧ nS (outS S b) = nS S := by
  unfold outS
  cases ha : atEndS S b with
  | none => exact ⟨Nat.le_refl _, Nat.le_succ _, rfl, rfl⟩
  | some i => cases hg : goesS S b i with
    | some k => simp only [hg]; exact ⟨Nat.le_refl _, Nat.le_succ _, trivial, trivial⟩
    | none =>
      simp only [hg]
      refine ⟨?_, ?_, rfl, rfl⟩
      · unfold tellS; simp only [eds_ue, eds_um, eds_ug, eds_ur]; simp
      · unfold tellS; simp only [eds_ue, eds_um, eds_ug, eds_ur]; simp
theorem eds_pass (S : St) (b : Nat) : (eds S).length ≤ (eds (passS S b)).length ∧ wts (passS S b) = wts S ∧ nS (passS S b) = nS S := by
  unfold passS
  by_cases hz : 0 < missS S b
  · rw [if_pos hz]; exact ⟨Nat.le_refl _, rfl, rfl⟩
  · rw [if_neg hz]
    cases hg : giverS S b b with
    | none => exact ⟨Nat.le_refl _, rfl, rfl⟩
    | some k => cases hr : rr S (k / 2) with
      | nil => simp only [hr]; exact ⟨Nat.le_refl _, trivial, trivial⟩
      | cons j t =>
        simp only [hr]
        refine ⟨?_, rfl, rfl⟩
        unfold tellS; simp only [eds_ue, eds_come, eds_um, eds_ur]; simp
theorem eds_exch (S : St) (b : Nat) : (eds S).length ≤ (eds (exchS S b)).length ∧ wts (exchS S b) = wts S ∧ nS (exchS S b) = nS S := by
  unfold exchS
  have h1 := eds_out S b
  have h2 := eds_pass (outS S b) b
  exact ⟨Nat.le_trans h1.1 h2.1, h2.2.1.trans h1.2.2.1, h2.2.2.trans h1.2.2.2⟩
theorem eds_exAll : ∀ (n : Nat) (S : St), (eds S).length ≤ (eds (exAllS S n)).length ∧ wts (exAllS S n) = wts S ∧ nS (exAllS S n) = nS S
  | 0, S => by unfold exAllS; exact ⟨Nat.le_refl _, rfl, rfl⟩
  | n + 1, S => by
    unfold exAllS
    by_cases hz : mm S 6 n = 0
    · rw [if_pos hz]; exact eds_exAll n S
    · rw [if_neg hz]
      have h1 := eds_exch S n
      have h2 := eds_exAll n (exchS S n)
      exact ⟨Nat.le_trans h1.1 h2.1, h2.2.1.trans h1.2.1, h2.2.2.trans h1.2.2⟩
theorem wts_mvAll (S : St) : ∀ (d n : Nat), (wts (mvAllS S n)).length ≤ (wts (mvAllS S (n + d))).length
  | 0, n => Nat.le_refl _
  | d + 1, n => by
    refine Nat.le_trans (wts_mvAll S d n) ?_
    rw [← Nat.add_assoc]
    show (wts (mvAllS S (n + d))).length ≤ (wts (if mm (mvAllS S (n + d)) 6 (n + d) = 0 then mvAllS S (n + d) else moveS (mvAllS S (n + d)) (n + d))).length
    by_cases hz : mm (mvAllS S (n + d)) 6 (n + d) = 0
    · rw [if_pos hz]; exact Nat.le_refl _
    · rw [if_neg hz]; exact wts_mvL _ _ _ _
theorem mvAll_no {S : St} {n : Nat} (z : mm (mvAllS S n) 6 n = 0) : mvAllS S (n + 1) = mvAllS S n := by
  show (if mm (mvAllS S n) 6 n = 0 then mvAllS S n else moveS (mvAllS S n) n) = mvAllS S n
  rw [if_pos z]
theorem mvAll_go {S : St} {n : Nat} (z : ¬ mm (mvAllS S n) 6 n = 0) : mvAllS S (n + 1) = moveS (mvAllS S n) n := by
  show (if mm (mvAllS S n) 6 n = 0 then mvAllS S n else moveS (mvAllS S n) n) = moveS (mvAllS S n) n
  rw [if_neg z]
theorem exAll_no {S : St} {n : Nat} (z : mm S 6 n = 0) : exAllS S (n + 1) = exAllS S n := by
  show exAllS (if mm S 6 n = 0 then S else exchS S n) n = exAllS S n
  rw [if_pos z]
theorem exAll_go {S : St} {n : Nat} (z : ¬ mm S 6 n = 0) : exAllS S (n + 1) = exAllS (exchS S n) n := by
  show exAllS (if mm S 6 n = 0 then S else exchS S n) n = exAllS (exchS S n) n
  rw [if_neg z]
section MO
variable {e0 mi m : Nat} {A : Nat → Nat}
theorem M_mvAll {S : St} {K35 : Nat → Int32 → Int32 → Int32 → Wd → Prop} {Q : Int32 → Wd → Prop} {x1 x2 x3 : Int32} {w0 : Wd} (hS : okS S) (hwt : (wts (mvAllS S (nB S))).length < 3000)
    (hQ : ∀ w', RM (mvAllS S (nB S)) w' m A → FM m A w0 w' → ∀ i3 : Int32, i3 = x3 + 1 → K35 m x1 x2 i3 w') : ∀ (n k : Nat) (w : Wd), k + n = nB S → RM (mvAllS S k) w m A → FM m A w0 w → wb_Mo_step_92 e0 mi K35 Q (n + 1) m x1 x2 x3 (nI k) w := by
  have hb8 := hS.1.1
  intro n
  induction n with
  | zero =>
    intro k w hk R F
    have hkk : k = nB S := by omega
    unfold wb_Mo_step_92
    have l3 : wI w m 3 = nI (nB S) := by rw [R.2.2.1.1, (nB_mvAll S k).1]
    rw [l3]
    subst hkk
    exact ⟨R.1.1, fun _ => hQ w R F, fun z => absurd (nI_le (Nat.le_refl _) (by omega)) z⟩
  | succ n ih =>
    intro k w hk R F
    have hk8 : k < 8 := by omega
    unfold wb_Mo_step_92
    have l3 : wI w m 3 = nI (nB S) := by rw [R.2.2.1.1, (nB_mvAll S k).1]
    rw [l3]
    have next : ∀ u, RM (mvAllS S (k + 1)) u m A → FM m A w0 u → wb_Mo_step_117 e0 mi K35 (wb_Mo_step_92 e0 mi K35 Q (n + 1)) Q m x1 x2 x3 (nI k) u := fun u Ru Fu => by
      unfold wb_Mo_step_117
      intro i1 e1
      rw [e1, nI_1]
      exact ih (k + 1) u (by omega) Ru Fu
    refine ⟨R.1.1, fun z => absurd z (nI_ge (by omega) (by omega)), fun _ => ldA R.1 6 (n := 8) rfl (by decide) rfl rfl hk8 ?_⟩
    rw [nI_clamp (by omega), R.2.2.2.1 6 (by unfold isInt; decide) k hk8]
    have okk := ok_mvAll hS k
    refine ⟨fun z => next w ?_ F, fun z => ?_⟩
    · rw [mvAll_no z]; exact R
    · have e1 : mvAllS S (k + 1) = moveS (mvAllS S k) k := mvAll_go z
      have hw1 : (wts (moveS (mvAllS S k) k)).length < 3000 := by
        rw [← e1]
        have := wts_mvAll S (nB S - (k + 1)) (k + 1)
        rw [show k + 1 + (nB S - (k + 1)) = nB S by omega] at this
        omega
      refine M_move R hk8 (okS_R okk) (by have := okk.1.2.2; exact this) hw1 (fun w' R' F' => next w' ?_ (F.trans F'))
      rw [e1]; exact R'
theorem M_exAll {K35 : Nat → Int32 → Int32 → Int32 → Wd → Prop} {Q : Int32 → Wd → Prop} {x1 x2 x3 : Int32} {w0 : Wd} : ∀ (n : Nat) (S : St) (w : Wd), okS S → n ≤ nB S → (eds (exAllS S n)).length < 5990 → (wts (mvAllS (exAllS S n) (nB S))).length < 3000 →
    (∀ w', RM (mvAllS (exAllS S n) (nB S)) w' m A → FM m A w0 w' → ∀ i3 : Int32, i3 = x3 + 1 → K35 m x1 x2 i3 w') → RM S w m A → FM m A w0 w → wb_Mo_step_62 e0 mi K35 Q (n + 1) m x1 x2 x3 (nI n + (-1)) w := by
  intro n
  induction n with
  | zero =>
    intro S w hS hn he hwt hQ R F
    unfold wb_Mo_step_62
    have hb8 := hS.1.1
    refine ⟨fun _ => ⟨nB S + 1, ?_⟩, fun z => absurd (by decide) z⟩
    unfold exAllS at hwt hQ
    exact M_mvAll hS hwt hQ (nB S) 0 w (by omega) (by unfold mvAllS; exact R) F
  | succ n ih =>
    intro S w hS hn he hwt hQ R F
    have hb8 := hS.1.1
    have hn8 : n < 8 := by omega
    unfold wb_Mo_step_62
    rw [pk_m1]
    refine ⟨fun z => absurd z (nI_pos (by omega)), fun _ => ⟨R.1.1, ldA R.1 6 (n := 8) rfl (by decide) rfl rfl hn8 ?_⟩⟩
    rw [nI_clamp (by omega), R.2.2.2.1 6 (by unfold isInt; decide) n hn8]
    refine ⟨fun z => ?_, fun z => ?_⟩
    · have e1 : exAllS S (n + 1) = exAllS S n := exAll_no z
      rw [e1] at he hwt hQ
      unfold wb_Mo_step_83
      intro i1 ei1
      rw [ei1]
      exact ih S w hS (by omega) he hwt hQ R F
    · have e1 : exAllS S (n + 1) = exAllS (exchS S n) n := exAll_go z
      rw [e1] at he hwt hQ
      have hl := (eds_exAll n (exchS S n)).1
      have hl2 := (eds_exch S n).1
      refine M_exchange R hS (ok_out hS (by omega)) (by omega) (by omega) (fun w' R' F' => ?_)
      unfold wb_Mo_step_83
      intro i1 ei1
      rw [ei1]
      refine ih (exchS S n) w' (ok_exch hS (by omega)) (by rw [nB_exch]; omega) he ?_ ?_ R' (F.trans F')
      · rw [nB_exch]; exact hwt
      · rw [nB_exch]; exact hQ
theorem M_sec {S : St} {Q : Int32 → Wd → Prop} {x1 x2 x3 : Int32} {n : Nat} {w w0 : Wd} (hS : okS S) (R : RM S w m A) (F : FM m A w0 w) (h1 : (eds S).length + (wts S).length < 3000) (h2 : (eds (secS S)).length < 5990) (h3 : (wts (secS S)).length < 3000)
    (hQ : ∀ w', RM (secS S) w' m A → FM m A w0 w' → ∀ i3 : Int32, i3 = x3 + 1 → wb_Mo_step_35 e0 mi Q n m x1 x2 i3 w') (hlt : ¬ x1 ≤ x3) : wb_Mo_step_35 e0 mi Q (n + 1) m x1 x2 x3 w := by
  unfold wb_Mo_step_35
  refine ⟨fun z => absurd z hlt, fun _ => ⟨R.1.1, ?_⟩⟩
  rw [R.2.1.1]
  have R1 := RM_time R (mm S 1 0 + 1)
  have F1 := F.sc (s := 1) (by decide) (mm S 1 0 + 1)
  refine M_read (S := tickS S) R1 hS.2.2.2.2.2.2.2.2.1 h1 (fun w5 R5 F5 => ⟨R5.1.1, fun i12 e12 => ⟨nB S + 1, ?_⟩⟩)
  have l3 : wI w5 m 3 = nI (nB S) := R5.2.2.1.1
  rw [l3, Int32.sub_eq_add_neg] at e12
  rw [e12]
  have okr := ok_read (ok_tick hS)
  have hE : (eds (exAllS (readS (tickS S)) (nB S))).length < 5990 := by
    have q : ∀ (n : Nat) (T : St), eds (mvAllS T n) = eds T := fun n T => by
      induction n with
      | zero => rfl
      | succ n ih =>
        by_cases hz : mm (mvAllS T n) 6 n = 0
        · rw [mvAll_no hz]; exact ih
        · rw [mvAll_go hz]
          have q2 : ∀ (l : List Nat) (U : St) (p : Option Nat), eds (mvLS U n p l) = eds U := fun l => by
            induction l with
            | nil => intro U p; rfl
            | cons i t ih2 => intro U p; unfold mvLS; rw [ih2]; rfl
          unfold moveS
          rw [q2]; exact ih
    unfold secS at h2
    rw [q] at h2
    exact h2
  have := M_exAll (e0 := e0) (mi := mi) (K35 := wb_Mo_step_35 e0 mi Q n) (Q := Q) (x1 := x1) (x2 := x2) (x3 := x3) (w0 := w0) (nB S) (readS (tickS S)) w5 okr (Nat.le_refl _) hE h3 hQ R5 (F1.trans F5)
  exact this
end MO
