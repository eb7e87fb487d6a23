/-! FRAMES: the reference over the class's calls, the class over the reference's calls, both over the law's row -/
theorem RM_fr {S : St} {w w' : Wd} {m : Nat} {A : Nat → Nat} (h : RM S w m A) (hm : wI w' m = wI w m ∧ wR w' m = wR w m) (hm2 : bw_is w' m 6) (hA : ∀ k, 0 < mKd k → bw_is w' (A k) (mKd k) ∧ wN w' (A k) = wN w (A k) ∧ wI w' (A k) = wI w (A k) ∧ wJ w' (A k) = wJ w (A k)) : RM S w' m A := by
  obtain ⟨h1, ⟨a1, a2, a3⟩, ⟨b1, b2, b3, b4, b5, b6⟩, h4, h5, h6, h7, h8⟩ := h
  refine ⟨⟨hm2, fun k hk => ⟨?_, (hA k hk).1, ?_⟩, h1.2.2⟩, ⟨?_, ?_, ?_⟩, ⟨?_, ?_, ?_, ?_, ?_, ?_⟩, fun k hk i hi => ?_, fun b hb => ⟨?_, fun j i hj => ?_⟩, fun j e hj => ?_, fun j e hj => ?_, fun j i hj => ?_⟩
  · rw [hm.2]; exact (h1.2.1 k hk).1
  · rw [(hA k hk).2.1]; exact (h1.2.1 k hk).2.2
  · rw [hm.1]; exact a1
  · rw [hm.1]; exact a2
  · rw [hm.1]; exact a3
  · rw [hm.1]; exact b1
  · rw [hm.1]; exact b2
  · rw [hm.1]; exact b3
  · rw [hm.1]; exact b4
  · rw [hm.1]; exact b5
  · rw [hm.1]; exact b6
  · rw [(hA k (isInt_kd hk).1).2.2.1]; exact h4 k hk i hi
  · rw [(hA 10 (by decide)).2.2.1]; exact (h5 b hb).1
  · rw [(hA 11 (by decide)).2.2.1]; exact (h5 b hb).2 j i hj
  · rw [(hA 26 (by decide)).2.2.2]; exact h6 j e hj
  · rw [(hA 28 (by decide)).2.2.2]; exact h7 j e hj
  · rw [(hA 31 (by decide)).2.2.1]; exact h8 j i hj
theorem RM_frC {S : St} {w w' : Wd} {m : Nat} {A : Nat → Nat} (h : RM S w m A) (F : FrC w w') : RM S w' m A := by
  have i6 := h.1.1
  obtain ⟨a1, a2, a3, a4⟩ := F m i6.1
  have km := a4 (by rw [i6.2]; exact Or.inl rfl)
  refine RM_fr h ⟨km.1, km.2.1⟩ ⟨a1, a2.trans i6.2⟩ (fun k hk => ?_)
  have ik := (h.1.2.1 k hk).2.1
  obtain ⟨b1, b2, b3, b4⟩ := F (A k) ik.1
  have kk := b4 (by rw [ik.2]; exact Or.inr (mKd_hi hk).1)
  exact ⟨⟨b1, b2.trans ik.2⟩, b3, kk.1, kk.2.2⟩
theorem RM_row {S : St} {w : Wd} {m r j : Nat} {A : Nat → Nat} {v : Int64} (h : RM S w m A) (hr : ∀ k, 0 < mKd k → A k ≠ r) : RM S (sJ w r j v) m A := by
  refine RM_fr h ⟨rfl, rfl⟩ h.1.1 (fun k hk => ⟨(h.1.2.1 k hk).2.1, rfl, rfl, ?_⟩)
  have K : Kp (fun b => b = r) w (sJ w r j v) := Kp.rfl.sJ (fun _ => rfl)
  exact K.J (h.1.2.1 k hk).2.1.1 (hr k hk)
theorem RC_fx {e0 : Nat} {S S' : St} {w w' : Wd} {q m : Nat} {A : Nat → Nat} {P : Nat → Nat → Nat} {LE LW : List (Nat × Ed)} (R : RC e0 S w q P LE LW) (hS : okS S) (hM : isM w m A) (F : FX m A w w') : RC e0 S w' q P LE LW := by
  have K : Kp (fun b => b = m ∨ ∃ k, 0 < mKd k ∧ b = A k) w w' := fun b hb => by
    obtain ⟨⟨l1, l2, l3, l4⟩, f⟩ := F
    refine ⟨by rw [l1]; exact hb, by rw [l2], by rw [l4], fun hx => ?_⟩
    have := f b (fun z => hx (Or.inl z)) (fun k hk z => hx (Or.inr ⟨k, hk, z⟩))
    exact ⟨this.1, by rw [l3], this.2⟩
  refine RC_kp R hS K (fun a ci ha hx => ?_)
  rcases hx with z | ⟨k, hk, z⟩
  · have := hM.1.2
    rw [← z, ha.2] at this
    exact Or.inl this
  · have := (hM.2.1 k hk).2.1.2
    rw [← z, ha.2] at this
    rw [this]
    exact Or.inr (mKd_hi hk).1
theorem RC_row {e0 : Nat} {S : St} {w : Wd} {q r j : Nat} {v : Int64} {P : Nat → Nat → Nat} {LE LW : List (Nat × Ed)} (R : RC e0 S w q P LE LW) (hS : okS S) (hr : isRes w r) : RC e0 S (sJ w r j v) q P LE LW := by
  have K : Kp (fun b => b = r) w (sJ w r j v) := Kp.rfl.sJ (fun _ => rfl)
  refine RC_kp R hS K (fun a ci ha z => ?_)
  have := hr.1.2
  rw [← z, ha.2] at this
  rw [this]
  exact Or.inr (by decide)
theorem res_frC {w w' : Wd} {r : Nat} (h : isRes w r) (F : FrC w w') : isRes w' r ∧ wJ w' r = wJ w r := by
  obtain ⟨a1, a2, a3, a4⟩ := F r h.1.1
  have k := a4 (by rw [h.1.2]; exact Or.inr (by decide))
  exact ⟨⟨⟨a1, a2.trans h.1.2⟩, a3.trans h.2⟩, k.2.2⟩
theorem res_fx {w w' : Wd} {m r : Nat} {A : Nat → Nat} (h : isRes w r) (hm : isM w m A) (hr : ∀ k, 0 < mKd k → A k ≠ r) (F : FX m A w w') : isRes w' r ∧ wJ w' r = wJ w r := by
  obtain ⟨⟨l1, l2, l3, l4⟩, f⟩ := F
  have hrm : r ≠ m := fun z => by
    have a := hm.1.2
    rw [← z, h.1.2] at a
    exact absurd a (by decide)
  exact ⟨⟨⟨by rw [l1]; exact h.1.1, by rw [l2]; exact h.1.2⟩, by rw [l4]; exact h.2⟩, (f r hrm (fun k hk z => hr k hk z.symm)).2⟩
