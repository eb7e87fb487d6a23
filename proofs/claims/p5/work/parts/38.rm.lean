/-! THE REFERENCE HOLDS THE STATE -/
/-- a long of the reference's rows of edges -/
def pk (e : Ed) : Int64 := (((e.1.toInt64 <<< ((32 : Int32).toInt64 &&& 63)) ||| ((nI e.2.1).toInt64 <<< ((24 : Int32).toInt64 &&& 63))) ||| ((nI e.2.2.1).toInt64 <<< ((8 : Int32).toInt64 &&& 63))) ||| (nI e.2.2.2).toInt64
def isInt (k : Nat) : Prop := k ∈ [4, 5, 6, 7, 8, 9, 13, 14, 15, 16, 17, 18, 19, 20, 22, 23, 24]
theorem isInt_kd {k : Nat} (h : isInt k) : 0 < mKd k ∧ k ≠ 10 ∧ k ≠ 11 ∧ k ≠ 31 ∧ k ≠ 26 ∧ k ≠ 28 ∧ k < 32 := by
  have : ∀ k ∈ [4, 5, 6, 7, 8, 9, 13, 14, 15, 16, 17, 18, 19, 20, 22, 23, 24], 0 < mKd k ∧ k ≠ 10 ∧ k ≠ 11 ∧ k ≠ 31 ∧ k ≠ 26 ∧ k ≠ 28 ∧ k < 32 := by decide
  exact this k h
def RM (S : St) (w : Wd) (m : Nat) (A : Nat → Nat) : Prop :=
  isM w m A ∧
  (wI w m 1 = mm S 1 0 ∧ wI w m 2 = mm S 2 0 ∧ wI w m 30 = mm S 30 0) ∧
  (wI w m 3 = nI (nB S) ∧ wI w m 12 = nI (nT S) ∧ wI w m 21 = nI (nS S) ∧ wI w m 25 = nI (wts S).length ∧ wI w m 27 = nI (eds S).length ∧ wI w m 29 = nI (gos S).length) ∧
  (∀ k, isInt k → ∀ i, i < mLn k → wI w (A k) i = mm S k i) ∧
  (∀ b, b < 8 → wI w (A 10) b = nI (rr S b).length ∧ ∀ j i, (rr S b)[j]? = some i → wI w (A 11) (60 * b + j) = nI i) ∧
  (∀ j e, (wts S)[j]? = some e → wJ w (A 26) j = pk e) ∧ (∀ j e, (eds S)[j]? = some e → wJ w (A 28) j = pk e) ∧ (∀ j i, (gos S)[j]? = some i → wI w (A 31) j = nI i)
/-- a store into one of the rows of ints -/
theorem RM_um {S : St} {w : Wd} {m : Nat} {A : Nat → Nat} (h : RM S w m A) {k i : Nat} (hk : isInt k) (v : Int32) : RM (um S k i v) (sI w (A k) i v) m A := by
  obtain ⟨h1, ⟨a1, a2, a3⟩, ⟨b1, b2, b3, b4, b5, b6⟩, h4, h5, h6, h7, h8⟩ := h
  obtain ⟨k1, k2, k3, k4, k5, k6, k7⟩ := isInt_kd hk
  have ns : ∀ s, wI (sI w (A k) i v) m s = wI w m s := fun s => sc_a h1 k1 i v s
  have no : ∀ j, 0 < mKd j → j ≠ k → ∀ s, wI (sI w (A k) i v) (A j) s = wI w (A j) s := fun j hj hn s => by rw [pI_I, if_neg (fun z => isM_nn h1 hj k1 hn z.1)]
  have mo : ∀ j s, j ≠ k → mm (um S k i v) j s = mm S j s := fun j s hn => by rw [mm_um, if_neg (fun z => hn z.1)]
  have kne : ∀ j, ¬ isInt j → j ≠ k := fun j hj z => hj (z ▸ hk)
  have i1 : ¬ isInt 1 := by unfold isInt; decide
  have i2 : ¬ isInt 2 := by unfold isInt; decide
  have i30 : ¬ isInt 30 := by unfold isInt; decide
  refine ⟨isM_st h1 _ _ _, ⟨?_, ?_, ?_⟩, ⟨?_, ?_, ?_, ?_, ?_, ?_⟩, fun j hj s hs => ?_, fun b hb => ⟨?_, fun j x hx => ?_⟩, ?_, ?_, fun j x hx => ?_⟩
  · rw [ns, mo 1 0 (kne 1 i1)]; exact a1
  · rw [ns, mo 2 0 (kne 2 i2)]; exact a2
  · rw [ns, mo 30 0 (kne 30 i30)]; exact a3
  · rw [ns]; exact b1
  · rw [ns]; exact b2
  · rw [ns]; exact b3
  · rw [ns]; exact b4
  · rw [ns]; exact b5
  · rw [ns]; exact b6
  · by_cases hjk : j = k
    · subst hjk
      rw [pI_I, mm_um]
      by_cases hsi : s = i
      · rw [if_pos ⟨rfl, hsi⟩, if_pos ⟨rfl, hsi⟩]
      · rw [if_neg (fun z => hsi z.2), if_neg (fun z => hsi z.2)]; exact h4 j hj s hs
    · rw [no j (isInt_kd hj).1 hjk, mo j s hjk]; exact h4 j hj s hs
  · rw [no 10 (by decide) (Ne.symm k2)]; exact (h5 b hb).1
  · rw [no 11 (by decide) (Ne.symm k3)]; exact (h5 b hb).2 j x hx
  · exact h6
  · exact h7
  · rw [no 31 (by decide) (Ne.symm k4)]; exact h8 j x hx
/-- a store into one of the numbers: what it changes of the state, by the slot -/
theorem RM_sc {S S' : St} {w : Wd} {m : Nat} {A : Nat → Nat} (h : RM S w m A) {s : Nat} {v : Int32} (hr : rr S' = rr S) (he : eds S' = eds S) (hw : wts S' = wts S) (hg : gos S' = gos S)
    (hi : ∀ k, isInt k → mm S' k = mm S k)
    (t1 : (if s = 1 then v else mm S 1 0) = mm S' 1 0) (t2 : (if s = 2 then v else mm S 2 0) = mm S' 2 0) (t30 : (if s = 30 then v else mm S 30 0) = mm S' 30 0)
    (t3 : (if s = 3 then v else nI (nB S)) = nI (nB S')) (t12 : (if s = 12 then v else nI (nT S)) = nI (nT S')) (t21 : (if s = 21 then v else nI (nS S)) = nI (nS S'))
    (t25 : s ≠ 25) (t27 : s ≠ 27) (t29 : s ≠ 29) : RM S' (sI w m s v) m A := by
  obtain ⟨h1, ⟨a1, a2, a3⟩, ⟨b1, b2, b3, b4, b5, b6⟩, h4, h5, h6, h7, h8⟩ := h
  have ns : ∀ j, wI (sI w m s v) m j = if j = s then v else wI w m j := fun j => by
    rw [pI_I]
    by_cases hj : j = s
    · rw [if_pos ⟨rfl, hj⟩, if_pos hj]
    · rw [if_neg (fun z => hj z.2), if_neg hj]
  have no : ∀ j, 0 < mKd j → ∀ x, wI (sI w m s v) (A j) x = wI w (A j) x := fun j hj x => by rw [pI_I, if_neg (fun z => isM_ne h1 hj z.1)]
  have sw : ∀ (j : Nat) (x y z : Int32), x = y → (if s = j then v else y) = z → (if j = s then v else x) = z := fun j x y z hxy hz => by
    rw [← hz, hxy]
    by_cases hj : j = s
    · rw [if_pos hj, if_pos hj.symm]
    · rw [if_neg hj, if_neg (fun q => hj q.symm)]
  refine ⟨isM_st h1 _ _ _, ⟨?_, ?_, ?_⟩, ⟨?_, ?_, ?_, ?_, ?_, ?_⟩, fun j hj x hx => ?_, fun b hb => ⟨?_, fun j x hx => ?_⟩, ?_, ?_, fun j x hx => ?_⟩
  · rw [ns]; exact sw _ _ _ _ a1 t1
  · rw [ns]; exact sw _ _ _ _ a2 t2
  · rw [ns]; exact sw _ _ _ _ a3 t30
  · rw [ns]; exact sw _ _ _ _ b1 t3
  · rw [ns]; exact sw _ _ _ _ b2 t12
  · rw [ns]; exact sw _ _ _ _ b3 t21
  · rw [ns, if_neg (Ne.symm t25), hw]; exact b4
  · rw [ns, if_neg (Ne.symm t27), he]; exact b5
  · rw [ns, if_neg (Ne.symm t29), hg]; exact b6
  · rw [no j (isInt_kd hj).1, hi j hj]; exact h4 j hj x hx
  · rw [no 10 (by decide), hr]; exact (h5 b hb).1
  · rw [no 11 (by decide)]; rw [hr] at hx; exact (h5 b hb).2 j x hx
  · rw [hw]; exact h6
  · rw [he]; exact h7
  · rw [no 31 (by decide)]; rw [hg] at hx; exact h8 j x hx
theorem RM_code {S : St} {w : Wd} {m : Nat} {A : Nat → Nat} (h : RM S w m A) (v : Int32) : RM S (sI w m 0 v) m A :=
  RM_sc h rfl rfl rfl rfl (fun _ _ => rfl) rfl rfl rfl rfl rfl rfl (by decide) (by decide) (by decide)
theorem mm_um_ne (S : St) {k : Nat} (i : Nat) (v : Int32) {j : Nat} (h : j ≠ k) : mm (um S k i v) j = mm S j := by
  funext x; rw [mm_um, if_neg (fun z => h z.1)]
theorem mm_um_at (S : St) (k i : Nat) (v : Int32) : mm (um S k i v) k i = v := by rw [mm_um, if_pos ⟨rfl, rfl⟩]
theorem RM_time {S : St} {w : Wd} {m : Nat} {A : Nat → Nat} (h : RM S w m A) (v : Int32) : RM (um S 1 0 v) (sI w m 1 v) m A :=
  RM_sc h rfl rfl rfl rfl (fun k hk => mm_um_ne S 0 v (fun z => by subst z; exact absurd hk (by unfold isInt; decide))) (by rw [mm_um_at]; rfl) (by rw [mm_um_ne S 0 v (by decide)]; rfl) (by rw [mm_um_ne S 0 v (by decide)]; rfl) rfl rfl rfl (by decide) (by decide) (by decide)
theorem RM_gap {S : St} {w : Wd} {m : Nat} {A : Nat → Nat} (h : RM S w m A) (v : Int32) : RM (um S 2 0 v) (sI w m 2 v) m A :=
  RM_sc h rfl rfl rfl rfl (fun k hk => mm_um_ne S 0 v (fun z => by subst z; exact absurd hk (by unfold isInt; decide))) (by rw [mm_um_ne S 0 v (by decide)]; rfl) (by rw [mm_um_at]; rfl) (by rw [mm_um_ne S 0 v (by decide)]; rfl) rfl rfl rfl (by decide) (by decide) (by decide)
theorem RM_sum {S : St} {w : Wd} {m : Nat} {A : Nat → Nat} (h : RM S w m A) (v : Int32) : RM (um S 30 0 v) (sI w m 30 v) m A :=
  RM_sc h rfl rfl rfl rfl (fun k hk => mm_um_ne S 0 v (fun z => by subst z; exact absurd hk (by unfold isInt; decide))) (by rw [mm_um_ne S 0 v (by decide)]; rfl) (by rw [mm_um_ne S 0 v (by decide)]; rfl) (by rw [mm_um_at]; rfl) rfl rfl rfl (by decide) (by decide) (by decide)
theorem RM_nB {S : St} {w : Wd} {m : Nat} {A : Nat → Nat} (h : RM S w m A) (n : Nat) : RM (uB S n) (sI w m 3 (nI n)) m A :=
  RM_sc h rfl rfl rfl rfl (fun _ _ => rfl) rfl rfl rfl rfl rfl rfl (by decide) (by decide) (by decide)
theorem RM_nT {S : St} {w : Wd} {m : Nat} {A : Nat → Nat} (h : RM S w m A) (n : Nat) : RM (uT S n) (sI w m 12 (nI n)) m A :=
  RM_sc h rfl rfl rfl rfl (fun _ _ => rfl) rfl rfl rfl rfl rfl rfl (by decide) (by decide) (by decide)
theorem RM_nS {S : St} {w : Wd} {m : Nat} {A : Nat → Nat} (h : RM S w m A) (n : Nat) : RM (uS S n) (sI w m 21 (nI n)) m A :=
  RM_sc h rfl rfl rfl rfl (fun _ _ => rfl) rfl rfl rfl rfl rfl rfl (by decide) (by decide) (by decide)
