/-! WHAT HOLDS OF EVERY STATE THAT CALLS LEAD TO -/
def okS (S : St) : Prop :=
  (nB S ≤ 8 ∧ nT S ≤ 60 ∧ nS S ≤ 4) ∧
  (∀ b, nB S ≤ b → rr S b = []) ∧
  (∀ b i, i ∈ rr S b → 1 ≤ i ∧ i ≤ nT S ∧ mm S 13 i = 0 ∧ mm S 14 i = nI b ∧ (mm S 17 i = 0 ∨ mm S 17 i = 1)) ∧
  (∀ b, (rr S b).Nodup) ∧
  (∀ i, 1 ≤ i → i ≤ nT S → ∃ b, b < nB S ∧ mm S 14 i = nI b ∧ (mm S 13 i = 0 → i ∈ rr S b)) ∧
  (∀ b, b < nB S → ∀ y, y < 2 → mm S 7 (2 * b + y) = -1 ∨ ∃ c, b < c ∧ c < nB S ∧ mm S 7 (2 * b + y) = nI c) ∧
  ((gos S).Nodup ∧ ∀ i ∈ gos S, 1 ≤ i ∧ i ≤ nT S ∧ mm S 13 i = 1) ∧
  (∀ s, s < nS S → ∃ b, b < nB S ∧ mm S 22 s = nI b) ∧
  (∀ e ∈ wts S, e.2.1 = 0 ∧ e.2.2.1 ≤ 60 ∧ e.2.2.2 < 8) ∧ (∀ e ∈ eds S, e.2.1 < 3 ∧ e.2.2.1 ≤ 60 ∧ e.2.2.2 < 8)
/-- numbers 1 .. n, none twice: no more than n -/
theorem nodup_le : ∀ (n : Nat) (l : List Nat), l.Nodup → (∀ i ∈ l, 1 ≤ i ∧ i ≤ n) → l.length ≤ n
  | 0, l, _, h => by
    cases l with
    | nil => simp
    | cons x t => have := h x List.mem_cons_self; omega
  | n + 1, l, hn, h => by
    have h1 : (l.erase (n + 1)).length ≤ n := nodup_le n (l.erase (n + 1)) (hn.erase _) (fun i hi => by
      have hi2 := (List.Nodup.mem_erase_iff hn).mp hi
      have := h i hi2.2
      have := hi2.1
      omega)
    have h2 := List.length_erase (a := n + 1) (l := l)
    by_cases hm : n + 1 ∈ l
    · rw [if_pos hm] at h2; omega
    · rw [if_neg hm] at h2; omega
theorem okS_R {S : St} (h : okS S) : okR S := fun b _ => ⟨Nat.le_trans (nodup_le (nT S) _ (h.2.2.2.1 b) (fun i hi => ⟨(h.2.2.1 b i hi).1, (h.2.2.1 b i hi).2.1⟩)) h.1.2.1, fun i hi => ⟨(h.2.2.1 b i hi).1, Nat.le_trans (h.2.2.1 b i hi).2.1 h.1.2.1⟩⟩
theorem nodup_first {l : List Nat} (h : l.Nodup) {p i : Nat} (hp : l[p]? = some i) : ∀ j, j < p → l[j]? ≠ some i := fun j hj hz => by
  have h1 := (List.getElem?_eq_some_iff.mp hp)
  have h2 := (List.getElem?_eq_some_iff.mp hz)
  obtain ⟨a1, a2⟩ := h1
  obtain ⟨b1, b2⟩ := h2
  exact (List.pairwise_iff_getElem.mp h j p b1 a1 hj) (b2.trans a2.symm)
theorem atEnd_some {S : St} {b i : Nat} (h : atEndS S b = some i) : ∃ t, rr S b = i :: t ∧ mm S 15 i = mm S 4 b := by
  unfold atEndS at h
  cases hl : rr S b with
  | nil => rw [hl] at h; simp at h
  | cons j t =>
    rw [hl] at h
    by_cases hz : mm S 15 j = mm S 4 b
    · simp only [if_pos hz] at h
      cases h
      exact ⟨t, rfl, hz⟩
    · simp only [if_neg hz] at h
      cases h
/-- the two ways of saying by which way an item goes -/
theorem goes_gb {S : St} {b i : Nat} (hw : mm S 17 i = 0 ∨ mm S 17 i = 1) : (gbS S b i = -1 ∧ goesS S b i = none) ∨ ∃ y, y < 2 ∧ gbS S b i = nI y ∧ goesS S b i = some (2 * b + y) ∧ ¬ mm S 7 (2 * b + y) = -1 := by
  obtain ⟨y, hy, hy2⟩ : ∃ y, mm S 17 i = nI y ∧ y < 2 := by
    rcases hw with z | z
    · exact ⟨0, z, by decide⟩
    · exact ⟨1, z, by decide⟩
  have cy : (nI y).toNatClampNeg = y := nI_clamp (by omega)
  unfold gbS goesS
  rw [hy, cy]
  by_cases h1 : mm S 7 (2 * b + y) = -1
  · rw [if_pos h1, if_pos h1]
    by_cases h2 : mm S 7 (2 * b) = -1
    · rw [if_pos h2, if_pos h2]; exact Or.inl ⟨rfl, rfl⟩
    · rw [if_neg h2, if_neg h2]; exact Or.inr ⟨0, by decide, rfl, rfl, h2⟩
  · rw [if_neg h1, if_neg h1]; exact Or.inr ⟨y, hy2, rfl, rfl, h1⟩
theorem cand_some {S : St} (hS : okS S) {b x k : Nat} (h : candS S b x = some k) : ∃ j t, rr S x = j :: t ∧ mm S 15 j = mm S 4 x ∧ goesS S x j = some k ∧ (∃ y, y < 2 ∧ k = 2 * x + y) ∧ mm S 7 k = nI b ∧ ¬ mm S 6 x = 0 := by
  unfold candS at h
  by_cases h6 : mm S 6 x = 0
  · rw [if_pos h6] at h; cases h
  · rw [if_neg h6] at h
    cases ha : atEndS S x with
    | none => rw [ha] at h; cases h
    | some j =>
      rw [ha] at h
      obtain ⟨t, ht, hpl⟩ := atEnd_some ha
      have hw := (hS.2.2.1 x j (by rw [ht]; exact List.mem_cons_self)).2.2.2.2
      rcases goes_gb (b := x) hw with ⟨-, g2⟩ | ⟨y, y1, -, g2, -⟩
      · simp [g2] at h
      · simp only [g2] at h
        by_cases h7 : mm S 7 (2 * x + y) = nI b
        · simp only [if_pos h7] at h
          cases h
          exact ⟨j, t, ht, hpl, g2, ⟨y, y1, rfl⟩, h7, h6⟩
        · simp only [if_neg h7] at h
          cases h
theorem giver_some {S : St} {b : Nat} : ∀ (n k : Nat), giverS S b n = some k → ∃ x, x < n ∧ candS S b x = some k
  | 0, k, h => by unfold giverS at h; cases h
  | n + 1, k, h => by
    unfold giverS bestS at h
    cases hc : candS S b n with
    | none =>
      rw [hc] at h
      obtain ⟨x, hx, hk⟩ := giver_some n k h
      exact ⟨x, by omega, hk⟩
    | some k2 =>
      rw [hc] at h
      cases hg : giverS S b n with
      | none =>
        rw [hg] at h
        cases h
        exact ⟨n, by omega, hc⟩
      | some j =>
        rw [hg] at h
        by_cases hz : mm S 9 k2 * mm S 8 j < mm S 9 j * mm S 8 k2
        · simp only [if_pos hz] at h
          cases h
          exact ⟨n, by omega, hc⟩
        · simp only [if_neg hz] at h
          cases h
          obtain ⟨x, hx, hk⟩ := giver_some n _ hg
          exact ⟨x, by omega, hk⟩
theorem giver_step {S : St} {b x : Nat} {c : Option Nat} (hc : candS S b x = c) : giverS S b (x + 1) = bestS S c (giverS S b x) := by
  show bestS S (candS S b x) (giverS S b x) = _
  rw [hc]
def enc : Option Nat → Int32
  | none => -1
  | some k => nI k
theorem nI_nm {n : Nat} (h : n < 2 ^ 31) : ¬ nI n = -1 := fun z => by
  have h1 := congrArg Int32.toInt z
  rw [nI_toInt h] at h1
  have e1 : (-1 : Int32).toInt = -1 := by decide
  omega
section MO
variable {e0 mi m : Nat} {A : Nat → Nat} {S : St} {w : Wd}
/-- the giver to b -/
theorem M_giver {b : Nat} {x2 : Int32} {Q : Wd → Prop} (h : RM S w m A) (hS : okS S) (hb : b < nB S) (hQ : ∀ n, wb_Mo_exchange_92 e0 mi Q (n + 1) m (nI b) x2 (enc (giverS S b b)) (nI b) w) : ∀ (n x : Nat), x + n = b → wb_Mo_exchange_92 e0 mi Q (n + 1) m (nI b) x2 (enc (giverS S b x)) (nI x) w := by
  have hr := okS_R hS
  have hb8 : b < 8 := by have := hS.1.1; omega
  intro n
  induction n with
  | zero =>
    intro x hx
    have : x = b := by omega
    subst this
    exact hQ 0
  | succ n ih =>
    intro x hx
    have hx8 : x < 8 := by omega
    have hnext : ∀ (z : Int32) (best : Option Nat), giverS S b (x + 1) = best → wb_Mo_exchange_201 e0 mi (wb_Mo_exchange_92 e0 mi Q (n + 1)) Q m (nI b) x2 (enc best) (nI x) z w := fun z best hbest => by
      unfold wb_Mo_exchange_201
      intro i1 e1
      rw [e1, nI_1, ← hbest]
      exact ih (x + 1) (by omega)
    unfold wb_Mo_exchange_92
    refine ⟨fun z => absurd z (nI_ge (by omega) (by omega)), fun _ => ⟨h.1.1, ldA h.1 6 (n := 8) rfl (by decide) rfl rfl hx8 ?_⟩⟩
    rw [nI_clamp (by omega), h.2.2.2.1 6 (by unfold isInt; decide) x hx8]
    refine ⟨fun z => ?_, fun z => M_atEnd h hx8 hr ?_⟩
    · unfold wb_Mo_exchange_118
      have hc : candS S b x = none := by unfold candS; rw [if_pos z]
      exact ⟨fun _ => hnext _ _ (giver_step hc), fun y => absurd rfl y⟩
    · unfold wb_Mo_exchange_118
      cases ha : atEndS S x with
      | none =>
        have hc : candS S b x = none := by unfold candS; rw [if_neg z]; simp only [ha]
        exact ⟨fun _ => hnext _ _ (giver_step hc), fun y => absurd rfl y⟩
      | some j =>
        obtain ⟨t, ht, hpl⟩ := atEnd_some ha
        have hj := hS.2.2.1 x j (by rw [ht]; exact List.mem_cons_self)
        have hj61 : j < 61 := by have := hj.2.1; have := hS.1.2.1; omega
        rw [show ((some j).getD 0) = j from rfl]
        refine ⟨fun y => absurd y (nI_ne0 hj.1 (by omega)), fun _ => ⟨h.1.1, M_goesBy h hx8 hj61 hj.2.2.2.1 hj.2.2.2.2 ?_⟩⟩
        rcases goes_gb (b := x) hj.2.2.2.2 with ⟨g1, g2⟩ | ⟨y, y1, g1, g2, -⟩
        · rw [g1]
          have hc : candS S b x = none := by unfold candS; rw [if_neg z]; simp only [ha, g2]
          exact ⟨fun q => absurd rfl q, fun _ => hnext _ _ (giver_step hc)⟩
        · rw [g1]
          refine ⟨fun _ => ⟨h.1.1, M_goesBy h hx8 hj61 hj.2.2.2.1 hj.2.2.2.2 ?_⟩, fun q => absurd q (nI_nm (by omega))⟩
          rw [g1]
          intro i19 e19
          rw [i2] at e19
          subst e19
          refine ⟨h.1.1, ldA h.1 7 (n := 16) rfl (by decide) rfl rfl (by omega) ?_⟩
          rw [nI_clamp (by omega), h.2.2.2.1 7 (by unfold isInt; decide) _ (show 2 * x + y < 16 by omega)]
          refine ⟨fun q => ?_, fun q => ?_⟩
          · have hc : candS S b x = none := by unfold candS; rw [if_neg z]; simp only [ha, g2, if_neg q]
            exact hnext _ _ (giver_step hc)
          · have hc : candS S b x = some (2 * x + y) := by unfold candS; rw [if_neg z]; simp only [ha, g2, if_pos q]
            refine ⟨fun q2 => ?_, fun q2 => ?_⟩
            · unfold wb_Mo_exchange_198
              have hbn : giverS S b x = none := by
                cases hg : giverS S b x with
                | none => rfl
                | some k =>
                  rw [hg] at q2
                  obtain ⟨x', hx', hk⟩ := giver_some x k hg
                  obtain ⟨j', t', -, -, -, ⟨y', hy', hky⟩, -, -⟩ := cand_some hS hk
                  exact absurd q2 (nI_nm (by omega))
              exact hnext _ (some (2 * x + y)) (by rw [giver_step hc, hbn]; rfl)
            · cases hg : giverS S b x with
              | none => rw [hg] at q2; exact absurd rfl q2
              | some k =>
                obtain ⟨x', hx', hk⟩ := giver_some x k hg
                obtain ⟨j', t', -, -, -, ⟨y', hy', hky⟩, -, -⟩ := cand_some hS hk
                have hk16 : k < 16 := by omega
                have ek : enc (some k) = nI k := rfl
                rw [ek]
                refine ldA h.1 9 (n := 16) rfl (by decide) rfl rfl (show 2 * x + y < 16 by omega) (ldA h.1 8 (n := 16) rfl (by decide) rfl rfl hk16 ⟨vA h.1 9 (n := 16) (by decide) rfl rfl hk16, vA h.1 8 (n := 16) (by decide) rfl rfl (show 2 * x + y < 16 by omega), ?_⟩)
                rw [nI_clamp (n := k) (by omega), h.2.2.2.1 9 (by unfold isInt; decide) _ (show 2 * x + y < 16 by omega), h.2.2.2.1 9 (by unfold isInt; decide) k hk16, h.2.2.2.1 8 (by unfold isInt; decide) _ (show 2 * x + y < 16 by omega), h.2.2.2.1 8 (by unfold isInt; decide) k hk16]
                refine ⟨fun q3 => ?_, fun q3 => ?_⟩
                · refine hnext _ (some k) ?_
                  rw [giver_step hc, hg]
                  show (if mm S 9 (2 * x + y) * mm S 8 k < mm S 9 k * mm S 8 (2 * x + y) then some (2 * x + y) else some k) = some k
                  rw [if_neg (Int32.not_lt.mpr q3)]
                · unfold wb_Mo_exchange_198
                  refine hnext _ (some (2 * x + y)) ?_
                  rw [giver_step hc, hg]
                  show (if mm S 9 (2 * x + y) * mm S 8 k < mm S 9 k * mm S 8 (2 * x + y) then some (2 * x + y) else some k) = some (2 * x + y)
                  rw [if_pos (Int32.not_le.mp q3)]
end MO
