/-! THE CLASS IS MADE: six empty lists -/
def cIn (e0 n : Nat) (w0 w : Wd) (q : Nat) (B : Nat → Nat) : Prop :=
  bw_is w q 5 ∧ (∀ j, wI w q j = 0) ∧
  (∀ k, k < n → wR w q k = some (B k) ∧ bw_is w (B k) 7 ∧ wI w (B k) 2 = 0 ∧ wR w (B k) 1 = some e0) ∧
  (∀ j k, j < n → k < n → B j = B k → j = k) ∧
  (∀ b, b ∈ wL w0 → b ∈ wL w ∧ wK w b = wK w0 b ∧ wN w b = wN w0 b ∧ (b ≠ q → wI w b = wI w0 b ∧ wR w b = wR w0 b ∧ wJ w b = wJ w0 b))
theorem cIn_step {e0 n : Nat} {w0 w : Wd} {q p : Nat} {B : Nat → Nat} (h : cIn e0 n w0 w q B) (hp : p ∉ wL w) : cIn e0 (n + 1) w0 (sR (sR (sI (bw_new w p 7 0) p 0 0) p 1 (some e0)) q n (some p)) q (va_up B n p) := by
  obtain ⟨h1, h2, h3, h4, h5⟩ := h
  have hqp : q ≠ p := fun z => hp (z ▸ h1.1)
  have hBp : ∀ k, k < n → B k ≠ p := fun k a z => hp (z ▸ (h3 k a).2.1.1)
  have hBq : ∀ k, k < n → B k ≠ q := fun k a z => by
    have e1 := (h3 k a).2.1.2
    rw [z, h1.2] at e1
    exact absurd e1 (by decide)
  refine ⟨bw_is_new (n := 0) hp h1, ?_, ?_, ?_, ?_⟩
  · intro j
    rw [pI_R, pI_R, pI_I, if_neg (fun z => hqp z.1), pI_N, if_neg hqp]; exact h2 j
  · intro k hkn
    rcases Nat.lt_or_eq_of_le (Nat.le_of_lt_succ hkn) with z | z
    · have hne : k ≠ n := by omega
      obtain ⟨a1, a2, a3, a4⟩ := h3 k z
      rw [va_up_ne _ _ hne]
      refine ⟨?_, bw_is_new (n := 0) hp a2, ?_, ?_⟩
      · rw [pR_R, if_neg (fun z => hne z.2), pR_R, if_neg (fun z => hqp z.1), pR_I, pR_N, if_neg hqp]; exact a1
      · rw [pI_R, pI_R, pI_I, if_neg (fun z2 => hBp k z z2.1), pI_N, if_neg (hBp k z)]; exact a3
      · rw [pR_R, if_neg (fun z2 => hBq k z z2.1), pR_R, if_neg (fun z2 => hBp k z z2.1), pR_I, pR_N, if_neg (hBp k z)]; exact a4
    · subst z
      rw [va_up_self]
      refine ⟨?_, bw_is_self w p 7 0, ?_, ?_⟩
      · rw [pR_R, if_pos ⟨rfl, rfl⟩]
      · rw [pI_R, pI_R, pI_I, if_neg (fun z => by simp at z), pI_N, if_pos rfl]
      · rw [pR_R, if_neg (fun z2 => hqp z2.1.symm), pR_R, if_pos ⟨rfl, rfl⟩]
  · intro j k hj hk2 hjk
    rcases Nat.lt_or_eq_of_le (Nat.le_of_lt_succ hj) with z | z <;> rcases Nat.lt_or_eq_of_le (Nat.le_of_lt_succ hk2) with z2 | z2
    · rw [va_up_ne _ _ (by omega : j ≠ n), va_up_ne _ _ (by omega : k ≠ n)] at hjk
      exact h4 j k z z2 hjk
    · subst z2
      rw [va_up_ne _ _ (by omega : j ≠ k), va_up_self] at hjk
      exact absurd hjk (hBp j z)
    · subst z
      rw [va_up_ne _ _ (by omega : k ≠ j), va_up_self] at hjk
      exact absurd hjk.symm (hBp k z2)
    · omega
  · intro b hb
    obtain ⟨b1, b2, b3, b4⟩ := h5 b hb
    have hbq : b ≠ p := fun z => hp (z ▸ b1)
    refine ⟨List.mem_append_left _ b1, ?_, ?_, fun hbm => ?_⟩
    · rw [pK_R, pK_R, pK_I, pK_N, if_neg hbq]; exact b2
    · rw [pN_R, pN_R, pN_I, pN_N, if_neg hbq]; exact b3
    · obtain ⟨c1, c2, c3⟩ := b4 hbm
      refine ⟨?_, ?_, ?_⟩
      · funext j; rw [pI_R, pI_R, pI_I, if_neg (fun z => hbq z.1), pI_N, if_neg hbq, c1]
      · funext j; rw [pR_R, if_neg (fun z => hbm z.1), pR_R, if_neg (fun z => hbq z.1), pR_I, pR_N, if_neg hbq, c2]
      · funext j; rw [pJ_R, pJ_R, pJ_I, pJ_N, if_neg hbq, c3]
/-- behind the constructor of the class -/
def isC (e0 : Nat) (w0 w : Wd) (q : Nat) (B : Nat → Nat) : Prop := bw_is w q 5 ∧ wI w q 6 = 100 ∧ wI w q 7 = 0 ∧ wI w q 8 = 0 ∧
  (∀ k, k < 6 → wR w q k = some (B k) ∧ bw_is w (B k) 7 ∧ wI w (B k) 2 = 0 ∧ wR w (B k) 1 = some e0) ∧
  (∀ j k, j < 6 → k < 6 → B j = B k → j = k) ∧
  (∀ b, b ∈ wL w0 → b ∈ wL w ∧ wK w b = wK w0 b ∧ wN w b = wN w0 b ∧ (b ≠ q → wI w b = wI w0 b ∧ wR w b = wR w0 b ∧ wJ w b = wJ w0 b))
set_option maxHeartbeats 4000000 in
theorem isC_init {e0 mi q nc ns : Nat} {w : Wd} {Q : Wd → Prop} (hm : bw_is w q 5) (hI : ∀ j, wI w q j = 0) (hc : 6 ≤ nc) (hs : 18 ≤ ns) (h : ∀ w' B, isC e0 w w' q B → Q w') : wp_Br_init e0 mi q w nc ns Q := by
  unfold wp_Br_init
  have I0 : cIn e0 0 w w q (fun _ => 0) := ⟨hm, hI, fun k hk => (by omega), fun j k hj => (by omega), fun b hb => ⟨hb, rfl, rfl, fun _ => ⟨rfl, rfl, rfl⟩⟩⟩
  refine ⟨by omega, by omega, fun p0 hp0 w0 ew0 => ?_⟩
  refine isL_init (by rw [ew0]; exact bw_is_self _ p0 7 0) (by rw [ew0, pI_N, if_pos rfl]) (fun v0 _ ev0 => ?_)
  have I1 := cIn_step I0 hp0
  rw [← ew0, ← ev0] at I1
  clear I0 ew0 ev0
  refine ⟨I1.1, ?_⟩
  refine ⟨by omega, by omega, fun p1 hp1 w1 ew1 => ?_⟩
  refine isL_init (by rw [ew1]; exact bw_is_self _ p1 7 0) (by rw [ew1, pI_N, if_pos rfl]) (fun v1 _ ev1 => ?_)
  have I2 := cIn_step I1 hp1
  rw [← ew1, ← ev1] at I2
  clear I1 ew1 ev1
  refine ⟨I2.1, ?_⟩
  refine ⟨by omega, by omega, fun p2 hp2 w2 ew2 => ?_⟩
  refine isL_init (by rw [ew2]; exact bw_is_self _ p2 7 0) (by rw [ew2, pI_N, if_pos rfl]) (fun v2 _ ev2 => ?_)
  have I3 := cIn_step I2 hp2
  rw [← ew2, ← ev2] at I3
  clear I2 ew2 ev2
  refine ⟨I3.1, ?_⟩
  refine ⟨by omega, by omega, fun p3 hp3 w3 ew3 => ?_⟩
  refine isL_init (by rw [ew3]; exact bw_is_self _ p3 7 0) (by rw [ew3, pI_N, if_pos rfl]) (fun v3 _ ev3 => ?_)
  have I4 := cIn_step I3 hp3
  rw [← ew3, ← ev3] at I4
  clear I3 ew3 ev3
  refine ⟨I4.1, ?_⟩
  refine ⟨by omega, by omega, fun p4 hp4 w4 ew4 => ?_⟩
  refine isL_init (by rw [ew4]; exact bw_is_self _ p4 7 0) (by rw [ew4, pI_N, if_pos rfl]) (fun v4 _ ev4 => ?_)
  have I5 := cIn_step I4 hp4
  rw [← ew4, ← ev4] at I5
  clear I4 ew4 ev4
  refine ⟨I5.1, ?_⟩
  refine ⟨by omega, by omega, fun p5 hp5 w5 ew5 => ?_⟩
  refine isL_init (by rw [ew5]; exact bw_is_self _ p5 7 0) (by rw [ew5, pI_N, if_pos rfl]) (fun v5 _ ev5 => ?_)
  have I6 := cIn_step I5 hp5
  rw [← ew5, ← ev5] at I6
  clear I5 ew5 ev5
  refine ⟨I6.1, ?_⟩
  obtain ⟨g1, g2, g3, g4, g5⟩ := I6
  refine h _ _ ⟨g1, ?_, ?_, ?_, fun k hk => ?_, g4, fun b hb => ?_⟩
  · rw [pI_I, if_neg (fun z => by simp at z), pI_I, if_neg (fun z => by simp at z), pI_I, if_pos ⟨rfl, rfl⟩]
  · rw [pI_I, if_neg (fun z => by simp at z), pI_I, if_pos ⟨rfl, rfl⟩]
  · rw [pI_I, if_pos ⟨rfl, rfl⟩]
  · obtain ⟨a1, a2, a3, a4⟩ := g3 k hk
    have hn : va_up (va_up (va_up (va_up (va_up (va_up (fun _ => 0) 0 p0) 1 p1) 2 p2) 3 p3) 4 p4) 5 p5 k ≠ q := fun z => by
      have e1 := a2.2
      rw [z, g1.2] at e1
      exact absurd e1 (by decide)
    refine ⟨a1, a2, ?_, a4⟩
    rw [pI_I, if_neg (fun z => hn z.1), pI_I, if_neg (fun z => hn z.1), pI_I, if_neg (fun z => hn z.1)]
    exact a3
  · obtain ⟨b1, b2, b3, b4⟩ := g5 b hb
    refine ⟨b1, b2, b3, fun hbq => ?_⟩
    obtain ⟨c1, c2, c3⟩ := b4 hbq
    refine ⟨?_, c2, c3⟩
    rw [← c1]
    funext j
    rw [pI_I, if_neg (fun z => hbq z.1), pI_I, if_neg (fun z => hbq z.1), pI_I, if_neg (fun z => hbq z.1)]
