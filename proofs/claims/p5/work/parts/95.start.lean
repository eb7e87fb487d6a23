/-! THE LAW'S START: both objects and the row of one long are made -/
theorem isC_kp {e0 : Nat} {w0 w w' : Wd} {q : Nat} {B : Nat → Nat} {X : Nat → Prop} (h : isC e0 w0 w q B) (hk : Kp X w w') (hX : ∀ b, b ∈ wL w → ¬ X b) : isC e0 w00 w' q B := by
  obtain ⟨h1, h2, h3, h4, h5, h6, -⟩ := h
  have hI := hk.I h1.1 (hX q h1.1)
  have hR := hk.R h1.1 (hX q h1.1)
  refine ⟨hk.is h1, by rw [hI, h2], by rw [hI, h3], by rw [hI, h4], fun k hk2 => ?_, h6, fun b hb => (by cases hb)⟩
  obtain ⟨a1, a2, a3, a4⟩ := h5 k hk2
  exact ⟨by rw [hR, a1], hk.is a2, by rw [hk.I a2.1 (hX _ a2.1), a3], by rw [hk.R a2.1 (hX _ a2.1), a4]⟩
theorem mIn_kp {w0 w : Wd} {m : Nat} {A : Nat → Nat} (h : mIn 32 w0 w m A) : isM w m A :=
  ⟨h.1, fun k hk => ⟨(h.2.2.1 k (mKd_hi hk).2.2 hk).1, (h.2.2.1 k (mKd_hi hk).2.2 hk).2.1, (h.2.2.1 k (mKd_hi hk).2.2 hk).2.2.1⟩, fun j k hj hk => h.2.2.2.1 j k (mKd_hi hj).2.2 (mKd_hi hk).2.2 hj hk⟩
/-- what holds where the law's loop begins -/
def atStart (e0 : Nat) (w : Wd) (q m r : Nat) : Prop := ∃ A B, isC e0 w00 w q B ∧ isM w m A ∧ (∀ j, wI w m j = if j = 2 then 100 else 0) ∧ (∀ k, 0 < mKd k → ∀ j, wI w (A k) j = 0 ∧ wJ w (A k) j = 0) ∧ isRes w r ∧ (∀ k, 0 < mKd k → A k ≠ r)
theorem law_start {e0 mi L : Nat} {xs : Nat → Int32} {nc ns : Nat} (hc : 31 ≤ nc) (hs : 10180 ≤ ns) (h : ∀ q m r w, atStart e0 w q m r → ∃ n, wb_La_law_23 e0 mi L xs n (some q) (some m) (some r) 0 w (nc - 31) (ns - 10180)) : wp_La_law e0 mi w00 nc ns L xs := by
  unfold wp_La_law
  refine ⟨by omega, by omega, fun q hq w5 e5 => ⟨6, 18, by omega, by omega, ?_⟩⟩
  have a1 : bw_is w5 q 5 := by rw [e5]; exact bw_is_self _ q 5 0
  have a2 : ∀ j, wI w5 q j = 0 := fun j => by rw [e5, pI_N, if_pos rfl]
  refine isC_init a1 a2 (by omega) (by omega) (fun w8 B hC => ⟨by omega, by omega, fun m hm w18 e18 => ⟨22, 10120, by omega, by omega, ?_⟩⟩)
  have b1 : bw_is w18 m 6 := by rw [e18]; exact bw_is_self _ m 6 0
  have b2 : ∀ j, wI w18 m j = 0 := fun j => by rw [e18, pI_N, if_pos rfl]
  refine isM_init b1 b2 (by omega) (by omega) (fun w21 A hI => ?_)
  have e1 : (1 : Int32).toNatClampNeg = 1 := by decide
  refine ⟨by decide, by decide, by omega, by rw [e1]; omega, fun r hr w33 e33 => ?_⟩
  rw [e1] at e33 ⊢
  have n1 : nc - 1 - 6 - 1 - 22 - 1 = nc - 31 := by omega
  have n2 : ns - 9 - 18 - 32 - 10120 - 1 = ns - 10180 := by omega
  rw [n1, n2]
  have M1 := mIn_kp hI
  have hrA : ∀ k, 0 < mKd k → A k ≠ r := fun k hk z => hr (z ▸ (M1.2.1 k hk).2.1.1)
  have hrm : m ≠ r := fun z => hr (z ▸ M1.1.1)
  have K1 : Kp (fun b => b = m) w8 w18 := by rw [e18]; exact Kp.rfl.new hm
  have K2 : Kp (fun b => b = m) w18 w21 := fun b hb => by
    obtain ⟨c1, c2, c3, c4⟩ := hI.2.2.2.2 b hb
    exact ⟨c1, c2, c3, c4⟩
  have K3 : Kp (fun b => b = m) w21 w33 := by rw [e33]; exact Kp.rfl.new hr
  have K4 : Kp (fun _ => False) w21 w33 := by rw [e33]; exact Kp.rfl.new hr
  refine h q m r w33 ⟨A, B, isC_kp hC ((K1.trans K2).trans K3) (fun b hb z => hm (z ▸ hb)), ⟨K4.is M1.1, fun k hk => ⟨?_, K4.is (M1.2.1 k hk).2.1, ?_⟩, M1.2.2⟩, fun j => ?_, fun k hk j => ⟨?_, ?_⟩, ⟨?_, ?_⟩, hrA⟩
  · rw [K4.R M1.1.1 id]; exact (M1.2.1 k hk).1
  · rw [K4.N (M1.2.1 k hk).2.1.1]; exact (M1.2.1 k hk).2.2
  · rw [K4.I M1.1.1 id]; exact hI.2.1 j
  · rw [K4.I (M1.2.1 k hk).2.1.1 id]; exact ((hI.2.2.1 k (mKd_hi hk).2.2 hk).2.2.2 j).1
  · rw [K4.J (M1.2.1 k hk).2.1.1 id]; exact ((hI.2.2.1 k (mKd_hi hk).2.2 hk).2.2.2 j).2
  · rw [e33]; exact bw_is_self _ r 102 1
  · rw [e33, pN_N, if_pos rfl]
