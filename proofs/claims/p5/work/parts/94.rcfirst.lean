/-! THE CLASS AT THE LAW'S START HOLDS THE FIRST STATE -/
def P00 (B : Nat → Nat) : Nat → Nat → Nat := fun a k => if a = 6 then B k else 0
theorem RC_S0 {e0 : Nat} {w0 w : Wd} {q : Nat} {B : Nat → Nat} (h : isC e0 w0 w q B) : RC e0 S0 w q (P00 B) [] [] := by
  obtain ⟨h1, h2, h3, h4, h5, h6, -⟩ := h
  have zl : ∀ k, k < 6 → lmx S0 k = 0 ∧ lsx S0 (P00 B) [] [] k = [] := fun k hk => by
    have : k = 0 ∨ k = 1 ∨ k = 2 ∨ k = 3 ∨ k = 4 ∨ k = 5 := by omega
    rcases this with u | u | u | u | u | u <;> subst u <;> exact ⟨rfl, rfl⟩
  refine ⟨⟨h1, h2, h3, h4, fun k hk => (h5 k hk).1⟩, ⟨fun k hk => ?_, fun j k hj hk hn z => hn (h6 j k hj hk z), fun j k hj _ _ z => ?_⟩, ⟨fun b hb => absurd (show b < 0 from hb) (by omega), fun b c hb => absurd (show b < 0 from hb) (by omega)⟩, ⟨fun k hk => absurd (show k < 2 * 0 from hk) (by omega), fun k c hk => absurd (show k < 2 * 0 from hk) (by omega)⟩, ⟨fun i _ hi => absurd (show i ≤ 0 from hi) (by omega), fun i j hi1 hi => absurd (show i ≤ 0 from hi) (by omega)⟩, fun b p i hp => ?_, fun s hs => absurd (show s < 0 from hs) (by omega), ⟨rfl, rfl, fun x hx => (by cases hx), fun x hx => (by cases hx)⟩⟩
  · obtain ⟨a1, a2, a3, a4⟩ := h5 k hk
    rw [(zl k hk).1, (zl k hk).2]
    refine ⟨a2, a3, Nat.le_refl _, by decide, fun x hx => (by cases hx), fun _ => a4, fun z => absurd z (by omega)⟩
  · rw [(zl j hj).1] at z
    exact absurd z (by omega)
  · have : ([] : List Nat)[p]? = some i := hp
    simp at this
