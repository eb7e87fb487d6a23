/-! THE REFERENCE'S CELLS: its arrays, by the slots of its fields -/
def mKd (k : Nat) : Nat := [0, 0, 0, 0, 101, 101, 103, 101, 101, 101, 101, 101, 0, 101, 101, 101, 101, 101, 103, 101, 101, 0, 101, 101, 101, 0, 102, 0, 102, 0, 0, 101].getD k 0
def mLn (k : Nat) : Nat := [0, 0, 0, 0, 8, 8, 8, 16, 16, 16, 8, 480, 0, 61, 61, 61, 61, 61, 61, 61, 61, 0, 4, 4, 4, 0, 3000, 0, 6000, 0, 0, 60].getD k 0
theorem mKd_hi {k : Nat} (h : 0 < mKd k) : 101 ≤ mKd k ∧ mKd k ≤ 103 ∧ k < 32 := by
  by_cases hk : k < 32
  · have : ∀ k, k < 32 → 0 < mKd k → 101 ≤ mKd k ∧ mKd k ≤ 103 := by decide
    exact ⟨(this k hk h).1, (this k hk h).2, hk⟩
  · exfalso
    have h0 : mKd k = 0 := by
      unfold mKd
      rw [List.getD_eq_getElem?_getD, List.getElem?_eq_none (by simp; omega)]; rfl
    omega
/-- the reference stands at m, its arrays at the addresses A -/
def isM (w : Wd) (m : Nat) (A : Nat → Nat) : Prop := bw_is w m 6 ∧ (∀ k, 0 < mKd k → wR w m k = some (A k) ∧ bw_is w (A k) (mKd k) ∧ wN w (A k) = mLn k) ∧ ∀ j k, 0 < mKd j → 0 < mKd k → A j = A k → j = k
/-- while it is made: the slots below n are done -/
def mIn (n : Nat) (w0 w : Wd) (m : Nat) (A : Nat → Nat) : Prop :=
  bw_is w m 6 ∧ (∀ j, wI w m j = if j = 2 then 100 else 0) ∧
  (∀ k, k < n → 0 < mKd k → wR w m k = some (A k) ∧ bw_is w (A k) (mKd k) ∧ wN w (A k) = mLn k ∧ (∀ j, wI w (A k) j = 0 ∧ wJ w (A k) j = 0)) ∧
  (∀ j k, j < n → k < n → 0 < mKd j → 0 < mKd k → A j = A k → j = k) ∧
  (∀ b, b ∈ wL w0 → b ∈ wL w ∧ wK w b = wK w0 b ∧ wN w b = wN w0 b ∧ (b ≠ m → wI w b = wI w0 b ∧ wR w b = wR w0 b ∧ wJ w b = wJ w0 b))
theorem mIn_skip {n : Nat} {w0 w : Wd} {m : Nat} {A : Nat → Nat} (h : mIn n w0 w m A) (hk : mKd n = 0) : mIn (n + 1) w0 w m A := by
  obtain ⟨h1, h2, h3, h4, h5⟩ := h
  refine ⟨h1, h2, fun k hk2 hk3 => h3 k ?_ hk3, fun j k hj hk2 pj pk => h4 j k ?_ ?_ pj pk, h5⟩
  · rcases Nat.lt_or_eq_of_le (Nat.le_of_lt_succ hk2) with z | z
    · exact z
    · subst z; omega
  · rcases Nat.lt_or_eq_of_le (Nat.le_of_lt_succ hj) with z | z
    · exact z
    · subst z; omega
  · rcases Nat.lt_or_eq_of_le (Nat.le_of_lt_succ hk2) with z | z
    · exact z
    · subst z; omega
theorem mIn_step {n : Nat} {w0 w : Wd} {m q kd ln : Nat} {A : Nat → Nat} (h : mIn n w0 w m A) (hk : mKd n = kd) (hn : mLn n = ln) (hq : q ∉ wL w) : mIn (n + 1) w0 (sR (bw_new w q kd ln) m n (some q)) m (va_up A n q) := by
  obtain ⟨h1, h2, h3, h4, h5⟩ := h
  have hmq : m ≠ q := fun z => hq (z ▸ h1.1)
  have hAq : ∀ k, k < n → 0 < mKd k → A k ≠ q := fun k a b z => hq (z ▸ (h3 k a b).2.1.1)
  have hAm : ∀ k, k < n → 0 < mKd k → A k ≠ m := fun k a b z => by
    have e1 := (h3 k a b).2.1.2
    rw [z, h1.2] at e1
    have := mKd_hi b
    omega
  refine ⟨bw_is_new (n := ln) hq h1, ?_, ?_, ?_, ?_⟩
  · intro j
    rw [pI_R, pI_N, if_neg hmq]; exact h2 j
  · intro k hkn hk0
    rcases Nat.lt_or_eq_of_le (Nat.le_of_lt_succ hkn) with z | z
    · have hne : k ≠ n := by omega
      obtain ⟨a1, a2, a3, a4⟩ := h3 k z hk0
      rw [va_up_ne _ _ hne]
      refine ⟨?_, bw_is_new (n := ln) hq a2, ?_, fun j => ⟨?_, ?_⟩⟩
      · rw [pR_R, if_neg (fun z => hne z.2), pR_N, if_neg hmq]; exact a1
      · rw [pN_R, pN_N, if_neg (hAq k z hk0)]; exact a3
      · rw [pI_R, pI_N, if_neg (hAq k z hk0)]; exact (a4 j).1
      · rw [pJ_R, pJ_N, if_neg (hAq k z hk0)]; exact (a4 j).2
    · subst z
      rw [va_up_self]
      refine ⟨?_, ?_, ?_, fun j => ⟨?_, ?_⟩⟩
      · rw [pR_R, if_pos ⟨rfl, rfl⟩]
      · rw [hk]; exact bw_is_self w q kd ln
      · rw [pN_R, pN_N, if_pos rfl, hn]
      · rw [pI_R, pI_N, if_pos rfl]
      · rw [pJ_R, pJ_N, if_pos rfl]
  · intro j k hj hk2 pj pk hjk
    rcases Nat.lt_or_eq_of_le (Nat.le_of_lt_succ hj) with z | z <;> rcases Nat.lt_or_eq_of_le (Nat.le_of_lt_succ hk2) with z2 | z2
    · rw [va_up_ne _ _ (by omega : j ≠ n), va_up_ne _ _ (by omega : k ≠ n)] at hjk
      exact h4 j k z z2 pj pk hjk
    · subst z2
      rw [va_up_ne _ _ (by omega : j ≠ k), va_up_self] at hjk
      exact absurd hjk (hAq j z pj)
    · subst z
      rw [va_up_ne _ _ (by omega : k ≠ j), va_up_self] at hjk
      exact absurd hjk.symm (hAq k z2 pk)
    · omega
  · intro b hb
    obtain ⟨b1, b2, b3, b4⟩ := h5 b hb
    have hbq : b ≠ q := fun z => hq (z ▸ b1)
    refine ⟨List.mem_append_left _ b1, ?_, ?_, fun hbm => ?_⟩
    · rw [pK_R, pK_N, if_neg hbq]; exact b2
    · rw [pN_R, pN_N, if_neg hbq]; exact b3
    · obtain ⟨c1, c2, c3⟩ := b4 hbm
      refine ⟨?_, ?_, ?_⟩
      · funext j; rw [pI_R, pI_N, if_neg hbq, c1]
      · funext j; rw [pR_R, if_neg (fun z => hbm z.1), pR_N, if_neg hbq, c2]
      · funext j; rw [pJ_R, pJ_N, if_neg hbq, c3]
set_option maxHeartbeats 4000000 in
/-- the reference is made -/
theorem isM_init {e0 mi m nc ns : Nat} {w : Wd} {Q : Wd → Prop} (hm : bw_is w m 6) (hI : ∀ j, wI w m j = 0) (hc : 22 ≤ nc) (hs : 10120 ≤ ns) (h : ∀ w' A, mIn 32 w w' m A → Q w') : wp_Mo_init e0 mi m w nc ns Q := by
  unfold wp_Mo_init
  have I0 : mIn 0 w (sI w m 2 100) m (fun _ => 0) := by
    refine ⟨hm, fun j => ?_, fun k hk => (by omega), fun j k hj => (by omega), fun b hb => ⟨hb, rfl, rfl, fun hbm => ⟨?_, rfl, rfl⟩⟩⟩
    · rw [pI_I]
      by_cases hj : j = 2
      · rw [if_pos ⟨rfl, hj⟩, if_pos hj]
      · rw [if_neg (fun z => hj z.2), if_neg hj]; exact hI j
    · funext j; rw [pI_I, if_neg (fun z => hbm z.1)]
  refine ⟨hm, ?_⟩
  replace I0 := mIn_skip I0 (show mKd 0 = 0 by decide)
  replace I0 := mIn_skip I0 (show mKd 1 = 0 by decide)
  replace I0 := mIn_skip I0 (show mKd 2 = 0 by decide)
  replace I0 := mIn_skip I0 (show mKd 3 = 0 by decide)
  have e4 : (8 : Int32).toNatClampNeg = 8 := by decide
  refine ⟨by decide, by decide, Nat.le_trans (by decide) hc, Nat.le_trans (by rw [e4]; decide) hs, fun q4 hq4 w4 ew4 c4 ec4 s4 es4 => ?_⟩
  rw [e4] at ew4 es4
  have I5 := mIn_step I0 (show mKd 4 = 101 by decide) (show mLn 4 = 8 by decide) hq4
  rw [← ew4] at I5
  have hc4 : 21 ≤ c4 := by rw [ec4]; exact Nat.le_sub_of_add_le hc
  have hs4 : 10112 ≤ s4 := by rw [es4]; exact Nat.le_sub_of_add_le hs
  clear I0 ew4 ec4 es4 hc hs
  have e5 : (8 : Int32).toNatClampNeg = 8 := by decide
  refine ⟨by decide, by decide, Nat.le_trans (by decide) hc4, Nat.le_trans (by rw [e5]; decide) hs4, fun q5 hq5 w5 ew5 c5 ec5 s5 es5 => ?_⟩
  rw [e5] at ew5 es5
  have I6 := mIn_step I5 (show mKd 5 = 101 by decide) (show mLn 5 = 8 by decide) hq5
  rw [← ew5] at I6
  have hc5 : 20 ≤ c5 := by rw [ec5]; exact Nat.le_sub_of_add_le hc4
  have hs5 : 10104 ≤ s5 := by rw [es5]; exact Nat.le_sub_of_add_le hs4
  clear I5 ew5 ec5 es5 hc4 hs4
  have e6 : (8 : Int32).toNatClampNeg = 8 := by decide
  refine ⟨by decide, by decide, Nat.le_trans (by decide) hc5, Nat.le_trans (by rw [e6]; decide) hs5, fun q6 hq6 w6 ew6 c6 ec6 s6 es6 => ?_⟩
  rw [e6] at ew6 es6
  have I7 := mIn_step I6 (show mKd 6 = 103 by decide) (show mLn 6 = 8 by decide) hq6
  rw [← ew6] at I7
  have hc6 : 19 ≤ c6 := by rw [ec6]; exact Nat.le_sub_of_add_le hc5
  have hs6 : 10096 ≤ s6 := by rw [es6]; exact Nat.le_sub_of_add_le hs5
  clear I6 ew6 ec6 es6 hc5 hs5
  have e7 : (16 : Int32).toNatClampNeg = 16 := by decide
  refine ⟨by decide, by decide, Nat.le_trans (by decide) hc6, Nat.le_trans (by rw [e7]; decide) hs6, fun q7 hq7 w7 ew7 c7 ec7 s7 es7 => ?_⟩
  rw [e7] at ew7 es7
  have I8 := mIn_step I7 (show mKd 7 = 101 by decide) (show mLn 7 = 16 by decide) hq7
  rw [← ew7] at I8
  have hc7 : 18 ≤ c7 := by rw [ec7]; exact Nat.le_sub_of_add_le hc6
  have hs7 : 10080 ≤ s7 := by rw [es7]; exact Nat.le_sub_of_add_le hs6
  clear I7 ew7 ec7 es7 hc6 hs6
  have e8 : (16 : Int32).toNatClampNeg = 16 := by decide
  refine ⟨by decide, by decide, Nat.le_trans (by decide) hc7, Nat.le_trans (by rw [e8]; decide) hs7, fun q8 hq8 w8 ew8 c8 ec8 s8 es8 => ?_⟩
  rw [e8] at ew8 es8
  have I9 := mIn_step I8 (show mKd 8 = 101 by decide) (show mLn 8 = 16 by decide) hq8
  rw [← ew8] at I9
  have hc8 : 17 ≤ c8 := by rw [ec8]; exact Nat.le_sub_of_add_le hc7
  have hs8 : 10064 ≤ s8 := by rw [es8]; exact Nat.le_sub_of_add_le hs7
  clear I8 ew8 ec8 es8 hc7 hs7
  have e9 : (16 : Int32).toNatClampNeg = 16 := by decide
  refine ⟨by decide, by decide, Nat.le_trans (by decide) hc8, Nat.le_trans (by rw [e9]; decide) hs8, fun q9 hq9 w9 ew9 c9 ec9 s9 es9 => ?_⟩
  rw [e9] at ew9 es9
  have I10 := mIn_step I9 (show mKd 9 = 101 by decide) (show mLn 9 = 16 by decide) hq9
  rw [← ew9] at I10
  have hc9 : 16 ≤ c9 := by rw [ec9]; exact Nat.le_sub_of_add_le hc8
  have hs9 : 10048 ≤ s9 := by rw [es9]; exact Nat.le_sub_of_add_le hs8
  clear I9 ew9 ec9 es9 hc8 hs8
  have e10 : (8 : Int32).toNatClampNeg = 8 := by decide
  refine ⟨by decide, by decide, Nat.le_trans (by decide) hc9, Nat.le_trans (by rw [e10]; decide) hs9, fun q10 hq10 w10 ew10 c10 ec10 s10 es10 => ?_⟩
  rw [e10] at ew10 es10
  have I11 := mIn_step I10 (show mKd 10 = 101 by decide) (show mLn 10 = 8 by decide) hq10
  rw [← ew10] at I11
  have hc10 : 15 ≤ c10 := by rw [ec10]; exact Nat.le_sub_of_add_le hc9
  have hs10 : 10040 ≤ s10 := by rw [es10]; exact Nat.le_sub_of_add_le hs9
  clear I10 ew10 ec10 es10 hc9 hs9
  have e11 : (480 : Int32).toNatClampNeg = 480 := by decide
  refine ⟨by decide, by decide, Nat.le_trans (by decide) hc10, Nat.le_trans (by rw [e11]; decide) hs10, fun q11 hq11 w11 ew11 c11 ec11 s11 es11 => ?_⟩
  rw [e11] at ew11 es11
  have I12 := mIn_step I11 (show mKd 11 = 101 by decide) (show mLn 11 = 480 by decide) hq11
  rw [← ew11] at I12
  have hc11 : 14 ≤ c11 := by rw [ec11]; exact Nat.le_sub_of_add_le hc10
  have hs11 : 9560 ≤ s11 := by rw [es11]; exact Nat.le_sub_of_add_le hs10
  clear I11 ew11 ec11 es11 hc10 hs10
  replace I12 := mIn_skip I12 (show mKd 12 = 0 by decide)
  have e13 : (61 : Int32).toNatClampNeg = 61 := by decide
  refine ⟨by decide, by decide, Nat.le_trans (by decide) hc11, Nat.le_trans (by rw [e13]; decide) hs11, fun q13 hq13 w13 ew13 c13 ec13 s13 es13 => ?_⟩
  rw [e13] at ew13 es13
  have I14 := mIn_step I12 (show mKd 13 = 101 by decide) (show mLn 13 = 61 by decide) hq13
  rw [← ew13] at I14
  have hc13 : 13 ≤ c13 := by rw [ec13]; exact Nat.le_sub_of_add_le hc11
  have hs13 : 9499 ≤ s13 := by rw [es13]; exact Nat.le_sub_of_add_le hs11
  clear I12 ew13 ec13 es13 hc11 hs11
  have e14 : (61 : Int32).toNatClampNeg = 61 := by decide
  refine ⟨by decide, by decide, Nat.le_trans (by decide) hc13, Nat.le_trans (by rw [e14]; decide) hs13, fun q14 hq14 w14 ew14 c14 ec14 s14 es14 => ?_⟩
  rw [e14] at ew14 es14
  have I15 := mIn_step I14 (show mKd 14 = 101 by decide) (show mLn 14 = 61 by decide) hq14
  rw [← ew14] at I15
  have hc14 : 12 ≤ c14 := by rw [ec14]; exact Nat.le_sub_of_add_le hc13
  have hs14 : 9438 ≤ s14 := by rw [es14]; exact Nat.le_sub_of_add_le hs13
  clear I14 ew14 ec14 es14 hc13 hs13
  have e15 : (61 : Int32).toNatClampNeg = 61 := by decide
  refine ⟨by decide, by decide, Nat.le_trans (by decide) hc14, Nat.le_trans (by rw [e15]; decide) hs14, fun q15 hq15 w15 ew15 c15 ec15 s15 es15 => ?_⟩
  rw [e15] at ew15 es15
  have I16 := mIn_step I15 (show mKd 15 = 101 by decide) (show mLn 15 = 61 by decide) hq15
  rw [← ew15] at I16
  have hc15 : 11 ≤ c15 := by rw [ec15]; exact Nat.le_sub_of_add_le hc14
  have hs15 : 9377 ≤ s15 := by rw [es15]; exact Nat.le_sub_of_add_le hs14
  clear I15 ew15 ec15 es15 hc14 hs14
  have e16 : (61 : Int32).toNatClampNeg = 61 := by decide
  refine ⟨by decide, by decide, Nat.le_trans (by decide) hc15, Nat.le_trans (by rw [e16]; decide) hs15, fun q16 hq16 w16 ew16 c16 ec16 s16 es16 => ?_⟩
  rw [e16] at ew16 es16
  have I17 := mIn_step I16 (show mKd 16 = 101 by decide) (show mLn 16 = 61 by decide) hq16
  rw [← ew16] at I17
  have hc16 : 10 ≤ c16 := by rw [ec16]; exact Nat.le_sub_of_add_le hc15
  have hs16 : 9316 ≤ s16 := by rw [es16]; exact Nat.le_sub_of_add_le hs15
  clear I16 ew16 ec16 es16 hc15 hs15
  have e17 : (61 : Int32).toNatClampNeg = 61 := by decide
  refine ⟨by decide, by decide, Nat.le_trans (by decide) hc16, Nat.le_trans (by rw [e17]; decide) hs16, fun q17 hq17 w17 ew17 c17 ec17 s17 es17 => ?_⟩
  rw [e17] at ew17 es17
  have I18 := mIn_step I17 (show mKd 17 = 101 by decide) (show mLn 17 = 61 by decide) hq17
  rw [← ew17] at I18
  have hc17 : 9 ≤ c17 := by rw [ec17]; exact Nat.le_sub_of_add_le hc16
  have hs17 : 9255 ≤ s17 := by rw [es17]; exact Nat.le_sub_of_add_le hs16
  clear I17 ew17 ec17 es17 hc16 hs16
  have e18 : (61 : Int32).toNatClampNeg = 61 := by decide
  refine ⟨by decide, by decide, Nat.le_trans (by decide) hc17, Nat.le_trans (by rw [e18]; decide) hs17, fun q18 hq18 w18 ew18 c18 ec18 s18 es18 => ?_⟩
  rw [e18] at ew18 es18
  have I19 := mIn_step I18 (show mKd 18 = 103 by decide) (show mLn 18 = 61 by decide) hq18
  rw [← ew18] at I19
  have hc18 : 8 ≤ c18 := by rw [ec18]; exact Nat.le_sub_of_add_le hc17
  have hs18 : 9194 ≤ s18 := by rw [es18]; exact Nat.le_sub_of_add_le hs17
  clear I18 ew18 ec18 es18 hc17 hs17
  have e19 : (61 : Int32).toNatClampNeg = 61 := by decide
  refine ⟨by decide, by decide, Nat.le_trans (by decide) hc18, Nat.le_trans (by rw [e19]; decide) hs18, fun q19 hq19 w19 ew19 c19 ec19 s19 es19 => ?_⟩
  rw [e19] at ew19 es19
  have I20 := mIn_step I19 (show mKd 19 = 101 by decide) (show mLn 19 = 61 by decide) hq19
  rw [← ew19] at I20
  have hc19 : 7 ≤ c19 := by rw [ec19]; exact Nat.le_sub_of_add_le hc18
  have hs19 : 9133 ≤ s19 := by rw [es19]; exact Nat.le_sub_of_add_le hs18
  clear I19 ew19 ec19 es19 hc18 hs18
  have e20 : (61 : Int32).toNatClampNeg = 61 := by decide
  refine ⟨by decide, by decide, Nat.le_trans (by decide) hc19, Nat.le_trans (by rw [e20]; decide) hs19, fun q20 hq20 w20 ew20 c20 ec20 s20 es20 => ?_⟩
  rw [e20] at ew20 es20
  have I21 := mIn_step I20 (show mKd 20 = 101 by decide) (show mLn 20 = 61 by decide) hq20
  rw [← ew20] at I21
  have hc20 : 6 ≤ c20 := by rw [ec20]; exact Nat.le_sub_of_add_le hc19
  have hs20 : 9072 ≤ s20 := by rw [es20]; exact Nat.le_sub_of_add_le hs19
  clear I20 ew20 ec20 es20 hc19 hs19
  replace I21 := mIn_skip I21 (show mKd 21 = 0 by decide)
  have e22 : (4 : Int32).toNatClampNeg = 4 := by decide
  refine ⟨by decide, by decide, Nat.le_trans (by decide) hc20, Nat.le_trans (by rw [e22]; decide) hs20, fun q22 hq22 w22 ew22 c22 ec22 s22 es22 => ?_⟩
  rw [e22] at ew22 es22
  have I23 := mIn_step I21 (show mKd 22 = 101 by decide) (show mLn 22 = 4 by decide) hq22
  rw [← ew22] at I23
  have hc22 : 5 ≤ c22 := by rw [ec22]; exact Nat.le_sub_of_add_le hc20
  have hs22 : 9068 ≤ s22 := by rw [es22]; exact Nat.le_sub_of_add_le hs20
  clear I21 ew22 ec22 es22 hc20 hs20
  have e23 : (4 : Int32).toNatClampNeg = 4 := by decide
  refine ⟨by decide, by decide, Nat.le_trans (by decide) hc22, Nat.le_trans (by rw [e23]; decide) hs22, fun q23 hq23 w23 ew23 c23 ec23 s23 es23 => ?_⟩
  rw [e23] at ew23 es23
  have I24 := mIn_step I23 (show mKd 23 = 101 by decide) (show mLn 23 = 4 by decide) hq23
  rw [← ew23] at I24
  have hc23 : 4 ≤ c23 := by rw [ec23]; exact Nat.le_sub_of_add_le hc22
  have hs23 : 9064 ≤ s23 := by rw [es23]; exact Nat.le_sub_of_add_le hs22
  clear I23 ew23 ec23 es23 hc22 hs22
  have e24 : (4 : Int32).toNatClampNeg = 4 := by decide
  refine ⟨by decide, by decide, Nat.le_trans (by decide) hc23, Nat.le_trans (by rw [e24]; decide) hs23, fun q24 hq24 w24 ew24 c24 ec24 s24 es24 => ?_⟩
  rw [e24] at ew24 es24
  have I25 := mIn_step I24 (show mKd 24 = 101 by decide) (show mLn 24 = 4 by decide) hq24
  rw [← ew24] at I25
  have hc24 : 3 ≤ c24 := by rw [ec24]; exact Nat.le_sub_of_add_le hc23
  have hs24 : 9060 ≤ s24 := by rw [es24]; exact Nat.le_sub_of_add_le hs23
  clear I24 ew24 ec24 es24 hc23 hs23
  replace I25 := mIn_skip I25 (show mKd 25 = 0 by decide)
  have e26 : (3000 : Int32).toNatClampNeg = 3000 := by decide
  refine ⟨by decide, by decide, Nat.le_trans (by decide) hc24, Nat.le_trans (by rw [e26]; decide) hs24, fun q26 hq26 w26 ew26 c26 ec26 s26 es26 => ?_⟩
  rw [e26] at ew26 es26
  have I27 := mIn_step I25 (show mKd 26 = 102 by decide) (show mLn 26 = 3000 by decide) hq26
  rw [← ew26] at I27
  have hc26 : 2 ≤ c26 := by rw [ec26]; exact Nat.le_sub_of_add_le hc24
  have hs26 : 6060 ≤ s26 := by rw [es26]; exact Nat.le_sub_of_add_le hs24
  clear I25 ew26 ec26 es26 hc24 hs24
  replace I27 := mIn_skip I27 (show mKd 27 = 0 by decide)
  have e28 : (6000 : Int32).toNatClampNeg = 6000 := by decide
  refine ⟨by decide, by decide, Nat.le_trans (by decide) hc26, Nat.le_trans (by rw [e28]; decide) hs26, fun q28 hq28 w28 ew28 c28 ec28 s28 es28 => ?_⟩
  rw [e28] at ew28 es28
  have I29 := mIn_step I27 (show mKd 28 = 102 by decide) (show mLn 28 = 6000 by decide) hq28
  rw [← ew28] at I29
  have hc28 : 1 ≤ c28 := by rw [ec28]; exact Nat.le_sub_of_add_le hc26
  have hs28 : 60 ≤ s28 := by rw [es28]; exact Nat.le_sub_of_add_le hs26
  clear I27 ew28 ec28 es28 hc26 hs26
  replace I29 := mIn_skip I29 (show mKd 29 = 0 by decide)
  replace I29 := mIn_skip I29 (show mKd 30 = 0 by decide)
  have e31 : (60 : Int32).toNatClampNeg = 60 := by decide
  refine ⟨by decide, by decide, Nat.le_trans (by decide) hc28, Nat.le_trans (by rw [e31]; decide) hs28, fun q31 hq31 w31 ew31 c31 ec31 s31 es31 => ?_⟩
  rw [e31] at ew31 es31
  have I32 := mIn_step I29 (show mKd 31 = 101 by decide) (show mLn 31 = 60 by decide) hq31
  rw [← ew31] at I32
  have hc31 : 0 ≤ c31 := by rw [ec31]; exact Nat.le_sub_of_add_le hc28
  have hs31 : 0 ≤ s31 := by rw [es31]; exact Nat.le_sub_of_add_le hs28
  clear I29 ew31 ec31 es31 hc28 hs28
  exact h _ _ I32
