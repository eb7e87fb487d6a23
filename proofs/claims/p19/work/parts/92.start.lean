section
/-! divert: what holds is kept; THE FIRST STATE -/
theorem ok_div {S : St} (h : okS S) {x : Int32} (hx : x = 0 ∨ x = 1) (i : Nat) : okS (um (um S 17 i x) 18 i 1) := by
  refine ok_um ?_ (by unfold okSlot; decide) i 1
  have e13 := mm_um_ne S i x (show (13 : Nat) ≠ 17 by decide)
  have e14 := mm_um_ne S i x (show (14 : Nat) ≠ 17 by decide)
  have e7 := mm_um_ne S i x (show (7 : Nat) ≠ 17 by decide)
  have e22 := mm_um_ne S i x (show (22 : Nat) ≠ 17 by decide)
  obtain ⟨h1, h2, h3, h4, h5, h6, h7, h8, h9, h10⟩ := h
  refine ⟨h1, h2, fun b j hj => ?_, h4, fun j hj1 hj2 => ?_, fun b hb y hy => ?_, ⟨h7.1, fun j hj => ?_⟩, fun s hs => ?_, h9, h10⟩
  · have := h3 b j hj
    rw [e13, e14, mm_um]
    by_cases hji : j = i
    · rw [if_pos ⟨rfl, hji⟩]; exact ⟨this.1, this.2.1, this.2.2.1, this.2.2.2.1, hx⟩
    · rw [if_neg (fun z => hji z.2)]; exact this
  · rw [e13, e14]; exact h5 j hj1 hj2
  · rw [e7]; exact h6 b hb y hy
  · rw [e13]; exact h7.2 j hj
  · rw [e22]; exact h8 s hs
theorem rng01 {x : Int32} (h : rng x 0 1) : x = 0 ∨ x = 1 := by
  obtain ⟨j, hj, hx⟩ := w7 x (fun _ => True) (n := 1) (by decide) h
  have : j = 0 ∨ j = 1 := by omega
  rcases this with u | u <;> subst u
  · exact Or.inl hx
  · exact Or.inr hx
theorem phi_div (S : St) (i : Nat) (x y : Int32) : Phi (um (um S 17 i x) 18 i y) ≤ Phi S := Nat.le_trans (phi_um (by decide) _ _) (phi_um (by decide) _ _)
/-- a new object: nothing there, the least gap 100 -/
def S0 : St := (fun k _ => if k = 2 then 100 else 0, fun _ => [], [], [], [], 0, 0, 0, 0)
theorem ok_S0 : okS S0 := ⟨⟨by decide, by decide, by decide⟩, fun _ _ => rfl, fun b i h => (by cases h), fun _ => List.nodup_nil, fun i h1 h2 => absurd (show i ≤ 0 from h2) (by omega), fun b hb => absurd (show b < 0 from hb) (by omega), ⟨List.nodup_nil, fun i h => (by cases h)⟩, fun s hs => absurd (show s < 0 from hs) (by omega), fun e h => (by cases h), fun e h => (by cases h)⟩
theorem n9_S0 : ok9 S0 := fun _ _ => rfl
theorem phi_S0 : Phi S0 ≤ 720 := by
  have : ∀ n, sm (potI S0) n ≤ 12 * n := fun n => by
    induction n with
    | zero => exact Nat.le_refl _
    | succ n ih =>
      have e : potI S0 (n + 1) ≤ 12 := by
        unfold potI
        rw [if_pos (show nT S0 < n + 1 from Nat.succ_pos n)]
        exact Nat.le_refl _
      show sm (potI S0) n + potI S0 (n + 1) ≤ _
      omega
  have h := this 60
  have e1 : (eds S0).length = 0 := rfl
  have e2 : (wts S0).length = 0 := rfl
  unfold Phi
  rw [e1, e2]
  omega
end
section
/-! THE REFERENCE AT THE LAW'S START HOLDS THE FIRST STATE -/
theorem RM_S0 {w : Wd} {m : Nat} {A : Nat → Nat} (h : isM w m A) (h1 : ∀ j, wI w m j = if j = 2 then 100 else 0) (h2 : ∀ k, 0 < mKd k → ∀ j, wI w (A k) j = 0 ∧ wJ w (A k) j = 0) : RM S0 w m A := by
  refine ⟨h, ⟨?_, ?_, ?_⟩, ⟨?_, ?_, ?_, ?_, ?_, ?_⟩, fun k hk i _ => ?_, fun b _ => ⟨?_, fun j i hj => ?_⟩, fun j e hj => ?_, fun j e hj => ?_, fun j e hj => ?_⟩
  · rw [h1]; rfl
  · rw [h1]; rfl
  · rw [h1]; rfl
  · rw [h1]; rfl
  · rw [h1]; rfl
  · rw [h1]; rfl
  · rw [h1]; rfl
  · rw [h1]; rfl
  · rw [h1]; rfl
  · have k2 : k ≠ 2 := fun z => by subst z; unfold isInt at hk; revert hk; decide
    rw [(h2 k (isInt_kd hk).1 i).1]
    show (0 : Int32) = if k = 2 then 100 else 0
    rw [if_neg k2]
  · rw [(h2 10 (by decide) b).1]; rfl
  · have : ([] : List Nat)[j]? = some i := hj
    simp at this
  · have : ([] : List Ed)[j]? = some e := hj
    simp at this
  · have : ([] : List Ed)[j]? = some e := hj
    simp at this
  · have : ([] : List Nat)[j]? = some e := hj
    simp at this
end
section
/-! THE CLASS AT THE LAW'S START HOLDS THE FIRST STATE -/
def P00 (B : Nat → Nat) : Nat → Nat → Nat := fun a k => if a = 6 then B k else 0
theorem RC_S0 {e0 : Nat} {w0 w : Wd} {q : Nat} {B : Nat → Nat} (h : isC e0 w0 w q B) : RC e0 S0 w q (P00 B) [] [] := by
  obtain ⟨h1, h2, h3, h4, h5, h6, -⟩ := h
  have zl : ∀ k, k < 6 → lmx S0 k = 0 ∧ lsx S0 (P00 B) [] [] k = [] := fun k hk => by
    have : k = 0 ∨ k = 1 ∨ k = 2 ∨ k = 3 ∨ k = 4 ∨ k = 5 := by omega
    rcases this with u | u | u | u | u | u <;> subst u <;> exact ⟨rfl, rfl⟩
  refine ⟨⟨h1, h2, h3, h4, fun k hk => (h5 k hk).1⟩, ⟨fun k hk => ?_, fun j k hj hk hn z => hn (h6 j k hj hk z), fun j k hj _ _ z => ?_⟩, ⟨fun b hb => absurd (show b < 0 from hb) (by omega), fun b c hb => absurd (show b < 0 from hb) (by omega)⟩, ⟨fun k hk => absurd (show k < 2 * 0 from hk) (by omega), fun k c hk => absurd (show k < 2 * 0 from hk) (by omega)⟩, ⟨fun i _ hi => absurd (show i ≤ 0 from hi) (by omega), fun i j hi1 hi => absurd (show i ≤ 0 from hi) (by omega)⟩, fun b p i hp => ?_, fun s hs => absurd (show s < 0 from hs) (by omega), ⟨rfl, rfl, fun x hx => (by cases hx), fun x hx => (by cases hx)⟩⟩
  · obtain ⟨a1, a2, a3, a4⟩ := h5 k hk
    rw [(zl k hk).1, (zl k hk).2]
    refine ⟨a2, a3, Nat.le_refl _, by decide, fun x hx => (by cases hx), fun _ => a4, fun z => absurd z (by omega)⟩
  · rw [(zl j hj).1] at z
    exact absurd z (by omega)
  · have : ([] : List Nat)[p]? = some i := hp
    simp at this
end
section
/-! THE LAW'S START: both objects and the row of one long are made -/
theorem isC_kp {e0 : Nat} {w0 w w' : Wd} {q : Nat} {B : Nat → Nat} {X : Nat → Prop} (h : isC e0 w0 w q B) (hk : Kp X w w') (hX : ∀ b, b ∈ wL w → ¬ X b) : isC e0 w00 w' q B := by
  obtain ⟨h1, h2, h3, h4, h5, h6, -⟩ := h
  have hI := hk.I h1.1 (hX q h1.1)
  have hR := hk.R h1.1 (hX q h1.1)
  refine ⟨hk.is h1, by rw [hI, h2], by rw [hI, h3], by rw [hI, h4], fun k hk2 => ?_, h6, fun b hb => (by cases hb)⟩
  obtain ⟨a1, a2, a3, a4⟩ := h5 k hk2
  exact ⟨by rw [hR, a1], hk.is a2, by rw [hk.I a2.1 (hX _ a2.1), a3], by rw [hk.R a2.1 (hX _ a2.1), a4]⟩
theorem mIn_kp {w0 w : Wd} {m : Nat} {A : Nat → Nat} (h : mIn 32 w0 w m A) : isM w m A :=
  ⟨h.1, fun k hk => ⟨(h.2.2.1 k (mKd_hi hk).2.2 hk).1, (h.2.2.1 k (mKd_hi hk).2.2 hk).2.1, (h.2.2.1 k (mKd_hi hk).2.2 hk).2.2.1⟩, fun j k hj hk => h.2.2.2.1 j k (mKd_hi hj).2.2 (mKd_hi hk).2.2 hj hk⟩
/-- what holds where the law's loop begins -/
def atStart (e0 : Nat) (w : Wd) (q m r : Nat) : Prop := ∃ A B, isC e0 w00 w q B ∧ isM w m A ∧ (∀ j, wI w m j = if j = 2 then 100 else 0) ∧ (∀ k, 0 < mKd k → ∀ j, wI w (A k) j = 0 ∧ wJ w (A k) j = 0) ∧ isRes w r ∧ (∀ k, 0 < mKd k → A k ≠ r)
theorem law_start {e0 mi L : Nat} {xs : Nat → Int32} {nc ns : Nat} (hc : 31 ≤ nc) (hs : 10180 ≤ ns) (h : ∀ q m r w, atStart e0 w q m r → ∃ n, wb_La_law_23 e0 mi L xs n (some q) (some m) (some r) 0 w (nc - 31) (ns - 10180)) : wp_La_law e0 mi w00 nc ns L xs := by
  unfold wp_La_law
  refine ⟨by omega, by omega, fun q hq w5 e5 => ⟨6, 18, by omega, by omega, ?_⟩⟩
  have a1 : bw_is w5 q 5 := by rw [e5]; exact bw_is_self _ q 5 0
  have a2 : ∀ j, wI w5 q j = 0 := fun j => by rw [e5, pI_N, if_pos rfl]
  refine isC_init a1 a2 (by omega) (by omega) (fun w8 B hC => ⟨by omega, by omega, fun m hm w18 e18 => ⟨22, 10120, by omega, by omega, ?_⟩⟩)
  have b1 : bw_is w18 m 6 := by rw [e18]; exact bw_is_self _ m 6 0
  have b2 : ∀ j, wI w18 m j = 0 := fun j => by rw [e18, pI_N, if_pos rfl]
  refine isM_init b1 b2 (by omega) (by omega) (fun w21 A hI => ?_)
  have e1 : (1 : Int32).toNatClampNeg = 1 := by decide
  refine ⟨by decide, by decide, by omega, by rw [e1]; omega, fun r hr w33 e33 => ?_⟩
  rw [e1] at e33 ⊢
  have n1 : nc - 1 - 6 - 1 - 22 - 1 = nc - 31 := by omega
  have n2 : ns - 9 - 18 - 32 - 10120 - 1 = ns - 10180 := by omega
  rw [n1, n2]
  have M1 := mIn_kp hI
  have hrA : ∀ k, 0 < mKd k → A k ≠ r := fun k hk z => hr (z ▸ (M1.2.1 k hk).2.1.1)
  have hrm : m ≠ r := fun z => hr (z ▸ M1.1.1)
  have K1 : Kp (fun b => b = m) w8 w18 := by rw [e18]; exact Kp.rfl.new hm
  have K2 : Kp (fun b => b = m) w18 w21 := fun b hb => by
    obtain ⟨c1, c2, c3, c4⟩ := hI.2.2.2.2 b hb
    exact ⟨c1, c2, c3, c4⟩
  have K3 : Kp (fun b => b = m) w21 w33 := by rw [e33]; exact Kp.rfl.new hr
  have K4 : Kp (fun _ => False) w21 w33 := by rw [e33]; exact Kp.rfl.new hr
  refine h q m r w33 ⟨A, B, isC_kp hC ((K1.trans K2).trans K3) (fun b hb z => hm (z ▸ hb)), ⟨K4.is M1.1, fun k hk => ⟨?_, K4.is (M1.2.1 k hk).2.1, ?_⟩, M1.2.2⟩, fun j => ?_, fun k hk j => ⟨?_, ?_⟩, ⟨?_, ?_⟩, hrA⟩
  · rw [K4.R M1.1.1 id]; exact (M1.2.1 k hk).1
  · rw [K4.N (M1.2.1 k hk).2.1.1]; exact (M1.2.1 k hk).2.2
  · rw [K4.I M1.1.1 id]; exact hI.2.1 j
  · rw [K4.I (M1.2.1 k hk).2.1.1 id]; exact ((hI.2.2.1 k (mKd_hi hk).2.2 hk).2.2.2 j).1
  · rw [K4.J (M1.2.1 k hk).2.1.1 id]; exact ((hI.2.2.1 k (mKd_hi hk).2.2 hk).2.2.2 j).2
  · rw [e33]; exact bw_is_self _ r 102 1
  · rw [e33, pN_N, if_pos rfl]
end
section
/-! FRAMES: the reference over the class's calls, the class over the reference's calls, both over the law's row -/
theorem RM_fr {S : St} {w w' : Wd} {m : Nat} {A : Nat → Nat} (h : RM S w m A) (hm : wI w' m = wI w m ∧ wR w' m = wR w m) (hm2 : bw_is w' m 6) (hA : ∀ k, 0 < mKd k → bw_is w' (A k) (mKd k) ∧ wN w' (A k) = wN w (A k) ∧ wI w' (A k) = wI w (A k) ∧ wJ w' (A k) = wJ w (A k)) : RM S w' m A := by
  obtain ⟨h1, ⟨a1, a2, a3⟩, ⟨b1, b2, b3, b4, b5, b6⟩, h4, h5, h6, h7, h8⟩ := h
  refine ⟨⟨hm2, fun k hk => ⟨?_, (hA k hk).1, ?_⟩, h1.2.2⟩, ⟨?_, ?_, ?_⟩, ⟨?_, ?_, ?_, ?_, ?_, ?_⟩, fun k hk i hi => ?_, fun b hb => ⟨?_, fun j i hj => ?_⟩, fun j e hj => ?_, fun j e hj => ?_, fun j i hj => ?_⟩
  · rw [hm.2]; exact (h1.2.1 k hk).1
  · rw [(hA k hk).2.1]; exact (h1.2.1 k hk).2.2
  · rw [hm.1]; exact a1
  · rw [hm.1]; exact a2
  · rw [hm.1]; exact a3
  · rw [hm.1]; exact b1
  · rw [hm.1]; exact b2
  · rw [hm.1]; exact b3
  · rw [hm.1]; exact b4
  · rw [hm.1]; exact b5
  · rw [hm.1]; exact b6
  · rw [(hA k (isInt_kd hk).1).2.2.1]; exact h4 k hk i hi
  · rw [(hA 10 (by decide)).2.2.1]; exact (h5 b hb).1
  · rw [(hA 11 (by decide)).2.2.1]; exact (h5 b hb).2 j i hj
  · rw [(hA 26 (by decide)).2.2.2]; exact h6 j e hj
  · rw [(hA 28 (by decide)).2.2.2]; exact h7 j e hj
  · rw [(hA 31 (by decide)).2.2.1]; exact h8 j i hj
theorem RM_frC {S : St} {w w' : Wd} {m : Nat} {A : Nat → Nat} (h : RM S w m A) (F : FrC w w') : RM S w' m A := by
  have i6 := h.1.1
  obtain ⟨a1, a2, a3, a4⟩ := F m i6.1
  have km := a4 (by rw [i6.2]; exact Or.inl rfl)
  refine RM_fr h ⟨km.1, km.2.1⟩ ⟨a1, a2.trans i6.2⟩ (fun k hk => ?_)
  have ik := (h.1.2.1 k hk).2.1
  obtain ⟨b1, b2, b3, b4⟩ := F (A k) ik.1
  have kk := b4 (by rw [ik.2]; exact Or.inr (mKd_hi hk).1)
  exact ⟨⟨b1, b2.trans ik.2⟩, b3, kk.1, kk.2.2⟩
theorem RM_row {S : St} {w : Wd} {m r j : Nat} {A : Nat → Nat} {v : Int64} (h : RM S w m A) (hr : ∀ k, 0 < mKd k → A k ≠ r) : RM S (sJ w r j v) m A := by
  refine RM_fr h ⟨rfl, rfl⟩ h.1.1 (fun k hk => ⟨(h.1.2.1 k hk).2.1, rfl, rfl, ?_⟩)
  have K : Kp (fun b => b = r) w (sJ w r j v) := Kp.rfl.sJ (fun _ => rfl)
  exact K.J (h.1.2.1 k hk).2.1.1 (hr k hk)
theorem RC_fx {e0 : Nat} {S S' : St} {w w' : Wd} {q m : Nat} {A : Nat → Nat} {P : Nat → Nat → Nat} {LE LW : List (Nat × Ed)} (R : RC e0 S w q P LE LW) (hS : okS S) (hM : isM w m A) (F : FX m A w w') : RC e0 S w' q P LE LW := by
  have K : Kp (fun b => b = m ∨ ∃ k, 0 < mKd k ∧ b = A k) w w' := fun b hb => by
    obtain ⟨⟨l1, l2, l3, l4⟩, f⟩ := F
    refine ⟨by rw [l1]; exact hb, by rw [l2], by rw [l4], fun hx => ?_⟩
    have := f b (fun z => hx (Or.inl z)) (fun k hk z => hx (Or.inr ⟨k, hk, z⟩))
    exact ⟨this.1, by rw [l3], this.2⟩
  refine RC_kp R hS K (fun a ci ha hx => ?_)
  rcases hx with z | ⟨k, hk, z⟩
  · have := hM.1.2
    rw [← z, ha.2] at this
    exact Or.inl this
  · have := (hM.2.1 k hk).2.1.2
    rw [← z, ha.2] at this
    rw [this]
    exact Or.inr (mKd_hi hk).1
theorem RC_row {e0 : Nat} {S : St} {w : Wd} {q r j : Nat} {v : Int64} {P : Nat → Nat → Nat} {LE LW : List (Nat × Ed)} (R : RC e0 S w q P LE LW) (hS : okS S) (hr : isRes w r) : RC e0 S (sJ w r j v) q P LE LW := by
  have K : Kp (fun b => b = r) w (sJ w r j v) := Kp.rfl.sJ (fun _ => rfl)
  refine RC_kp R hS K (fun a ci ha z => ?_)
  have := hr.1.2
  rw [← z, ha.2] at this
  rw [this]
  exact Or.inr (by decide)
theorem res_frC {w w' : Wd} {r : Nat} (h : isRes w r) (F : FrC w w') : isRes w' r ∧ wJ w' r = wJ w r := by
  obtain ⟨a1, a2, a3, a4⟩ := F r h.1.1
  have k := a4 (by rw [h.1.2]; exact Or.inr (by decide))
  exact ⟨⟨⟨a1, a2.trans h.1.2⟩, a3.trans h.2⟩, k.2.2⟩
theorem res_fx {w w' : Wd} {m r : Nat} {A : Nat → Nat} (h : isRes w r) (hm : isM w m A) (hr : ∀ k, 0 < mKd k → A k ≠ r) (F : FX m A w w') : isRes w' r ∧ wJ w' r = wJ w r := by
  obtain ⟨⟨l1, l2, l3, l4⟩, f⟩ := F
  have hrm : r ≠ m := fun z => by
    have a := hm.1.2
    rw [← z, h.1.2] at a
    exact absurd a (by decide)
  exact ⟨⟨⟨by rw [l1]; exact h.1.1, by rw [l2]; exact h.1.2⟩, by rw [l4]; exact h.2⟩, (f r hrm (fun k hk z => hr k hk z.symm)).2⟩
end
