/-! divert: what holds is kept; THE FIRST STATE -/
theorem ok_div {S : St} (h : okS S) {x : Int32} (hx : x = 0 ∨ x = 1) (i : Nat) : okS (um (um S 17 i x) 18 i 1) := by
  refine ok_um ?_ (by unfold okSlot; decide) i 1
  have e13 := mm_um_ne S i x (show (13 : Nat) ≠ 17 by decide)
  have e14 := mm_um_ne S i x (show (14 : Nat) ≠ 17 by decide)
  have e7 := mm_um_ne S i x (show (7 : Nat) ≠ 17 by decide)
  have e22 := mm_um_ne S i x (show (22 : Nat) ≠ 17 by decide)
  obtain ⟨h1, h2, h3, h4, h5, h6, h7, h8, h9, h10⟩ := h
  refine ⟨h1, h2, fun b j hj => ?_, h4, fun j hj1 hj2 => ?_, fun b hb y hy => ?_, ⟨h7.1, fun j hj => ?_⟩, fun s hs => ?_, h9, h10⟩
  · have := h3 b j hj
    rw [e13, e14, mm_um]
    by_cases hji : j = i
    · rw [if_pos ⟨rfl, hji⟩]; exact ⟨this.1, this.2.1, this.2.2.1, this.2.2.2.1, hx⟩
    · rw [if_neg (fun z => hji z.2)]; exact this
  · rw [e13, e14]; exact h5 j hj1 hj2
  · rw [e7]; exact h6 b hb y hy
  · rw [e13]; exact h7.2 j hj
  · rw [e22]; exact h8 s hs
theorem rng01 {x : Int32} (h : rng x 0 1) : x = 0 ∨ x = 1 := by
  obtain ⟨j, hj, hx⟩ := w7 x (fun _ => True) (n := 1) (by decide) h
  have : j = 0 ∨ j = 1 := by omega
  rcases this with u | u <;> subst u
  · exact Or.inl hx
  · exact Or.inr hx
theorem phi_div (S : St) (i : Nat) (x y : Int32) : Phi (um (um S 17 i x) 18 i y) ≤ Phi S := Nat.le_trans (phi_um (by decide) _ _) (phi_um (by decide) _ _)
/-- a new object: nothing there, the least gap 100 -/
def S0 : St := (fun k _ => if k = 2 then 100 else 0, fun _ => [], [], [], [], 0, 0, 0, 0)
theorem ok_S0 : okS S0 := ⟨⟨by decide, by decide, by decide⟩, fun _ _ => rfl, fun b i h => (by cases h), fun _ => List.nodup_nil, fun i h1 h2 => absurd (show i ≤ 0 from h2) (by omega), fun b hb => absurd (show b < 0 from hb) (by omega), ⟨List.nodup_nil, fun i h => (by cases h)⟩, fun s hs => absurd (show s < 0 from hs) (by omega), fun e h => (by cases h), fun e h => (by cases h)⟩
theorem n9_S0 : ok9 S0 := fun _ _ => rfl
theorem phi_S0 : Phi S0 ≤ 720 := by
  have : ∀ n, sm (potI S0) n ≤ 12 * n := fun n => by
    induction n with
    | zero => exact Nat.le_refl _
    | succ n ih =>
      have e : potI S0 (n + 1) ≤ 12 := by
        unfold potI
        rw [if_pos (show nT S0 < n + 1 from Nat.succ_pos n)]
        exact Nat.le_refl _
      show sm (potI S0) n + potI S0 (n + 1) ≤ _
      omega
  have h := this 60
  have e1 : (eds S0).length = 0 := rfl
  have e2 : (wts S0).length = 0 := rfl
  unfold Phi
  rw [e1, e2]
  omega
