/-! THE REFERENCE: rows of items, edges, what waits, what went out -/
theorem RM_push {S : St} {w : Wd} {m : Nat} {A : Nat → Nat} (h : RM S w m A) {b i : Nat} (hb : b < 8) (hl : (rr S b).length < 60) (hr : ∀ b, b < 8 → (rr S b).length ≤ 60) : RM (ur S b (rr S b ++ [i])) (sI (sI w (A 11) (60 * b + (rr S b).length) (nI i)) (A 10) b (nI ((rr S b).length + 1))) m A := by
  obtain ⟨h1, ⟨a1, a2, a3⟩, ⟨b1, b2, b3, b4, b5, b6⟩, h4, h5, h6, h7, h8⟩ := h
  have ns : ∀ s, wI (sI (sI w (A 11) (60 * b + (rr S b).length) (nI i)) (A 10) b (nI ((rr S b).length + 1))) m s = wI w m s := fun s => by
    rw [pI_I, if_neg (fun z => isM_ne h1 (k := 10) (by decide) z.1.symm), pI_I, if_neg (fun z => isM_ne h1 (k := 11) (by decide) z.1.symm)]
  have no : ∀ j, 0 < mKd j → j ≠ 10 → j ≠ 11 → ∀ s, wI (sI (sI w (A 11) (60 * b + (rr S b).length) (nI i)) (A 10) b (nI ((rr S b).length + 1))) (A j) s = wI w (A j) s := fun j hj n1 n2 s => by
    rw [pI_I, if_neg (fun z => isM_nn h1 hj (by decide) n1 z.1), pI_I, if_neg (fun z => isM_nn h1 hj (by decide) n2 z.1)]
  refine ⟨isM_st (isM_st h1 _ _ _) _ _ _, ⟨?_, ?_, ?_⟩, ⟨?_, ?_, ?_, ?_, ?_, ?_⟩, fun j hj s hs => ?_, fun c hc => ⟨?_, fun j x hx => ?_⟩, h6, h7, fun j x hx => ?_⟩
  · rw [ns]; exact a1
  · rw [ns]; exact a2
  · rw [ns]; exact a3
  · rw [ns]; exact b1
  · rw [ns]; exact b2
  · rw [ns]; exact b3
  · rw [ns]; exact b4
  · rw [ns]; exact b5
  · rw [ns]; exact b6
  · obtain ⟨k1, k2, k3, -⟩ := isInt_kd hj
    rw [no j k1 k2 k3]; exact h4 j hj s hs
  · rw [pI_I, rr_ur]
    by_cases hcb : c = b
    · rw [if_pos ⟨rfl, hcb⟩, if_pos hcb]; simp
    · rw [if_neg (fun z => hcb z.2), if_neg hcb, pI_I, if_neg (fun z => isM_nn h1 (j := 10) (k := 11) (by decide) (by decide) (by decide) z.1)]
      exact (h5 c hc).1
  · rw [pI_I, if_neg (fun z => isM_nn h1 (j := 11) (k := 10) (by decide) (by decide) (by decide) z.1), pI_I]
    rw [rr_ur] at hx
    by_cases hcb : c = b
    · rw [if_pos hcb] at hx
      subst hcb
      by_cases hj : j = (rr S c).length
      · rw [if_pos ⟨rfl, by omega⟩]
        subst hj
        simp at hx
        rw [hx]
      · have hlt := (List.getElem?_eq_some_iff.mp hx).1
        simp at hlt
        rw [if_neg (fun z => by omega)]
        rw [List.getElem?_append_left (by omega)] at hx
        exact (h5 c hc).2 j x hx
    · rw [if_neg hcb] at hx
      have hlt := (List.getElem?_eq_some_iff.mp hx).1
      have := hr c hc
      rw [if_neg (fun z => by omega)]
      exact (h5 c hc).2 j x hx
  · rw [no 31 (by decide) (by decide) (by decide)]; exact h8 j x hx
theorem app_get {α : Type} {l : List α} {x : α} {j : Nat} {y : α} (h : (l ++ [x])[j]? = some y) : (j = l.length ∧ y = x) ∨ (j ≠ l.length ∧ l[j]? = some y) := by
  have hlt := (List.getElem?_eq_some_iff.mp h).1
  simp at hlt
  by_cases hj : j = l.length
  · left
    subst hj
    simp at h
    exact ⟨rfl, h.symm⟩
  · right
    rw [List.getElem?_append_left (by omega)] at h
    exact ⟨hj, h⟩
theorem RM_edge {S : St} {w : Wd} {m : Nat} {A : Nat → Nat} (h : RM S w m A) (e : Ed) : RM (tellS S e) (sI (sJ w (A 28) (eds S).length (pk e)) m 27 (nI ((eds S).length + 1))) m A := by
  obtain ⟨h1, ⟨a1, a2, a3⟩, ⟨b1, b2, b3, b4, b5, b6⟩, h4, h5, h6, h7, h8⟩ := h
  have ns : ∀ s, s ≠ 27 → wI (sI (sJ w (A 28) (eds S).length (pk e)) m 27 (nI ((eds S).length + 1))) m s = wI w m s := fun s hs => by
    rw [pI_I, if_neg (fun z => hs z.2), pI_J]
  have no : ∀ j, 0 < mKd j → ∀ s, wI (sI (sJ w (A 28) (eds S).length (pk e)) m 27 (nI ((eds S).length + 1))) (A j) s = wI w (A j) s := fun j hj s => by
    rw [pI_I, if_neg (fun z => isM_ne h1 hj z.1), pI_J]
  refine ⟨h1, ⟨?_, ?_, ?_⟩, ⟨?_, ?_, ?_, ?_, ?_, ?_⟩, fun j hj s hs => ?_, fun c hc => ⟨?_, fun j x hx => ?_⟩, fun j x hx => ?_, fun j x hx => ?_, fun j x hx => ?_⟩
  · rw [ns 1 (by decide)]; exact a1
  · rw [ns 2 (by decide)]; exact a2
  · rw [ns 30 (by decide)]; exact a3
  · rw [ns 3 (by decide)]; exact b1
  · rw [ns 12 (by decide)]; exact b2
  · rw [ns 21 (by decide)]; exact b3
  · rw [ns 25 (by decide)]; exact b4
  · rw [pI_I, if_pos ⟨rfl, rfl⟩]; unfold tellS; rw [eds_ue]; simp
  · rw [ns 29 (by decide)]; exact b6
  · rw [no j (isInt_kd hj).1]; exact h4 j hj s hs
  · rw [no 10 (by decide)]; exact (h5 c hc).1
  · rw [no 11 (by decide)]; exact (h5 c hc).2 j x hx
  · rw [pJ_I, pJ_J, if_neg (fun z => isM_nn h1 (j := 26) (k := 28) (by decide) (by decide) (by decide) z.1)]; exact h6 j x hx
  · unfold tellS at hx
    rw [eds_ue] at hx
    rw [pJ_I, pJ_J]
    rcases app_get hx with ⟨z1, z2⟩ | ⟨z1, z2⟩
    · rw [if_pos ⟨rfl, z1⟩, z2]
    · rw [if_neg (fun z => z1 z.2)]; exact h7 j x z2
  · rw [no 31 (by decide)]; exact h8 j x hx
theorem RM_wt {S : St} {w : Wd} {m : Nat} {A : Nat → Nat} (h : RM S w m A) (e : Ed) (n : Nat) : RM (uw S (wts S ++ [e]) n) (sI (sJ w (A 26) (wts S).length (pk e)) m 25 (nI ((wts S).length + 1))) m A := by
  obtain ⟨h1, ⟨a1, a2, a3⟩, ⟨b1, b2, b3, b4, b5, b6⟩, h4, h5, h6, h7, h8⟩ := h
  have ns : ∀ s, s ≠ 25 → wI (sI (sJ w (A 26) (wts S).length (pk e)) m 25 (nI ((wts S).length + 1))) m s = wI w m s := fun s hs => by
    rw [pI_I, if_neg (fun z => hs z.2), pI_J]
  have no : ∀ j, 0 < mKd j → ∀ s, wI (sI (sJ w (A 26) (wts S).length (pk e)) m 25 (nI ((wts S).length + 1))) (A j) s = wI w (A j) s := fun j hj s => by
    rw [pI_I, if_neg (fun z => isM_ne h1 hj z.1), pI_J]
  refine ⟨h1, ⟨?_, ?_, ?_⟩, ⟨?_, ?_, ?_, ?_, ?_, ?_⟩, fun j hj s hs => ?_, fun c hc => ⟨?_, fun j x hx => ?_⟩, fun j x hx => ?_, fun j x hx => ?_, fun j x hx => ?_⟩
  · rw [ns 1 (by decide)]; exact a1
  · rw [ns 2 (by decide)]; exact a2
  · rw [ns 30 (by decide)]; exact a3
  · rw [ns 3 (by decide)]; exact b1
  · rw [ns 12 (by decide)]; exact b2
  · rw [ns 21 (by decide)]; exact b3
  · rw [pI_I, if_pos ⟨rfl, rfl⟩, wts_uw]; simp
  · rw [ns 27 (by decide)]; exact b5
  · rw [ns 29 (by decide)]; exact b6
  · rw [no j (isInt_kd hj).1]; exact h4 j hj s hs
  · rw [no 10 (by decide)]; exact (h5 c hc).1
  · rw [no 11 (by decide)]; exact (h5 c hc).2 j x hx
  · rw [wts_uw] at hx
    rw [pJ_I, pJ_J]
    rcases app_get hx with ⟨z1, z2⟩ | ⟨z1, z2⟩
    · rw [if_pos ⟨rfl, z1⟩, z2]
    · rw [if_neg (fun z => z1 z.2)]; exact h6 j x z2
  · rw [pJ_I, pJ_J, if_neg (fun z => isM_nn h1 (j := 28) (k := 26) (by decide) (by decide) (by decide) z.1)]; exact h7 j x hx
  · rw [no 31 (by decide)]; exact h8 j x hx
theorem RM_go {S : St} {w : Wd} {m : Nat} {A : Nat → Nat} (h : RM S w m A) (i : Nat) : RM (ug S (gos S ++ [i])) (sI (sI w (A 31) (gos S).length (nI i)) m 29 (nI ((gos S).length + 1))) m A := by
  obtain ⟨h1, ⟨a1, a2, a3⟩, ⟨b1, b2, b3, b4, b5, b6⟩, h4, h5, h6, h7, h8⟩ := h
  have ns : ∀ s, s ≠ 29 → wI (sI (sI w (A 31) (gos S).length (nI i)) m 29 (nI ((gos S).length + 1))) m s = wI w m s := fun s hs => by
    rw [pI_I, if_neg (fun z => hs z.2), sc_a h1 (by decide)]
  have no : ∀ j, 0 < mKd j → j ≠ 31 → ∀ s, wI (sI (sI w (A 31) (gos S).length (nI i)) m 29 (nI ((gos S).length + 1))) (A j) s = wI w (A j) s := fun j hj hn s => by
    rw [pI_I, if_neg (fun z => isM_ne h1 hj z.1), pI_I, if_neg (fun z => isM_nn h1 hj (by decide) hn z.1)]
  refine ⟨isM_st (isM_st h1 _ _ _) _ _ _, ⟨?_, ?_, ?_⟩, ⟨?_, ?_, ?_, ?_, ?_, ?_⟩, fun j hj s hs => ?_, fun c hc => ⟨?_, fun j x hx => ?_⟩, h6, h7, fun j x hx => ?_⟩
  · rw [ns 1 (by decide)]; exact a1
  · rw [ns 2 (by decide)]; exact a2
  · rw [ns 30 (by decide)]; exact a3
  · rw [ns 3 (by decide)]; exact b1
  · rw [ns 12 (by decide)]; exact b2
  · rw [ns 21 (by decide)]; exact b3
  · rw [ns 25 (by decide)]; exact b4
  · rw [ns 27 (by decide)]; exact b5
  · rw [pI_I, if_pos ⟨rfl, rfl⟩, gos_ug]; simp
  · rw [no j (isInt_kd hj).1 (isInt_kd hj).2.2.2.1]; exact h4 j hj s hs
  · rw [no 10 (by decide) (by decide)]; exact (h5 c hc).1
  · rw [no 11 (by decide) (by decide)]; exact (h5 c hc).2 j x hx
  · rw [gos_ug] at hx
    rw [pI_I, if_neg (fun z => isM_ne h1 (k := 31) (by decide) z.1), pI_I]
    rcases app_get hx with ⟨z1, z2⟩ | ⟨z1, z2⟩
    · rw [if_pos ⟨rfl, z1⟩, z2]
    · rw [if_neg (fun z => z1 z.2)]; exact h8 j x z2
