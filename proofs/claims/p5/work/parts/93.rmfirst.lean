/-! THE REFERENCE AT THE LAW'S START HOLDS THE FIRST STATE -/
theorem RM_S0 {w : Wd} {m : Nat} {A : Nat → Nat} (h : isM w m A) (h1 : ∀ j, wI w m j = if j = 2 then 100 else 0) (h2 : ∀ k, 0 < mKd k → ∀ j, wI w (A k) j = 0 ∧ wJ w (A k) j = 0) : RM S0 w m A := by
  refine ⟨h, ⟨?_, ?_, ?_⟩, ⟨?_, ?_, ?_, ?_, ?_, ?_⟩, fun k hk i _ => ?_, fun b _ => ⟨?_, fun j i hj => ?_⟩, fun j e hj => ?_, fun j e hj => ?_, fun j e hj => ?_⟩
  · rw [h1]; rfl
  · rw [h1]; rfl
  · rw [h1]; rfl
  · rw [h1]; rfl
  · rw [h1]; rfl
  · rw [h1]; rfl
  · rw [h1]; rfl
  · rw [h1]; rfl
  · rw [h1]; rfl
  · have k2 : k ≠ 2 := fun z => by subst z; unfold isInt at hk; revert hk; decide
    rw [(h2 k (isInt_kd hk).1 i).1]
    show (0 : Int32) = if k = 2 then 100 else 0
    rw [if_neg k2]
  · rw [(h2 10 (by decide) b).1]; rfl
  · have : ([] : List Nat)[j]? = some i := hj
    simp at this
  · have : ([] : List Ed)[j]? = some e := hj
    simp at this
  · have : ([] : List Ed)[j]? = some e := hj
    simp at this
  · have : ([] : List Nat)[j]? = some e := hj
    simp at this
