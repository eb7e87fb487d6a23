/-! THE JOINT WORD OF THE LAW'S LOOP, AND THE ROOM -/
theorem cc_le : ∀ n, cc n ≤ n
  | 0 => Nat.le_refl _
  | n + 1 => by
    have := cc_le n
    show cc n + gC n n ≤ n + 1
    have g : gC n n ≤ 1 := by unfold gC; split <;> omega
    omega
theorem cs_le : ∀ n, cs n ≤ 4 * cap n
  | 0 => Nat.zero_le _
  | n + 1 => by
    have ih := cs_le n
    show cs n + gS n n ≤ 4 * cap (n + 1)
    have hc := cap_facts n
    have e : cap (n + 1) = if n < cap n then cap n else (if n = 0 then 10 else n + n / 2) := rfl
    unfold gS
    rw [show max n (n + 1) = n + 1 by omega]
    by_cases h : n = cap n
    · rw [if_pos h]
      rw [if_neg (by omega)] at e
      by_cases h0 : n = 0
      · rw [if_pos h0] at e
        rw [e]
        have : cap n = 0 := by omega
        omega
      · rw [if_neg h0] at e
        rw [e]
        have := hc.2.2 (by omega)
        omega
    · rw [if_neg h]
      rw [if_pos (by omega)] at e
      rw [e]
      omega
theorem gos_le {S : St} (hS : okS S) : (gos S).length ≤ 60 :=
  Nat.le_trans (nodup_le (nT S) _ hS.2.2.2.2.2.2.1.1 (fun i hi => ⟨(hS.2.2.2.2.2.2.1.2 i hi).1, (hS.2.2.2.2.2.2.1.2 i hi).2.1⟩)) hS.1.2.1
theorem us_few {e0 : Nat} {S : St} {w : Wd} {q : Nat} {P : Nat → Nat → Nat} {LE LW : List (Nat × Ed)} (R : RC e0 S w q P LE LW) (hS : okS S) (hp : Phi S < 2900) : usC S ≤ 20000 ∧ usS S ≤ 200000 := by
  have hx : wX S ≤ 10000 := (R.2.1.1 4 (by decide)).2.2.2.1
  have hg := gos_le hS
  obtain ⟨h1, h2, h3⟩ := hS.1
  have he : (eds S).length + (wts S).length ≤ Phi S := by unfold Phi; omega
  have a1 := cc_le (nB S)
  have a2 := cc_le (nT S)
  have a3 := cc_le (nS S)
  have a4 := cc_le (eds S).length
  have a5 := cc_le (wX S)
  have a6 := cc_le (gos S).length
  have b1 := cs_le (nB S)
  have b2 := cs_le (nT S)
  have b3 := cs_le (nS S)
  have b4 := cs_le (eds S).length
  have b5 := cs_le (wX S)
  have b6 := cs_le (gos S).length
  have d1 := (cap_facts (nB S)).2.1
  have d2 := (cap_facts (nT S)).2.1
  have d3 := (cap_facts (nS S)).2.1
  have d4 := (cap_facts (eds S).length).2.1
  have d5 := (cap_facts (wX S)).2.1
  have d6 := (cap_facts (gos S).length).2.1
  unfold usC usS
  constructor <;> omega
def Jn (e0 c : Nat) (w : Wd) (q m r nc ns : Nat) : Prop := ∃ (S : St) (A : Nat → Nat) (P : Nat → Nat → Nat) (LE LW : List (Nat × Ed)), RC e0 S w q P LE LW ∧ RM S w m A ∧ okS S ∧ ok9 S ∧ Phi S ≤ 720 + 4 * c ∧ isRes w r ∧ (∀ k, 0 < mKd k → A k ≠ r) ∧ 50000 ≤ nc + usC S + 10 * c ∧ 500000 ≤ ns + usS S + 200 * c
theorem Jn_start {e0 : Nat} {w : Wd} {q m r nc ns : Nat} (h : atStart e0 w q m r) (hc : 50000 ≤ nc) (hs : 500000 ≤ ns) : Jn e0 0 w q m r nc ns := by
  obtain ⟨A, B, h1, h2, h3, h4, h5, h6⟩ := h
  exact ⟨S0, A, P00 B, [], [], RC_S0 h1, RM_S0 h2 h3 h4, ok_S0, n9_S0, phi_S0, h5, h6, by omega, by omega⟩
