/-! CALLS: belts and items are looked up -/
theorem ix_cases (x : Int32) {n : Nat} (hn : n < 2 ^ 31) : (∃ j, j < n ∧ x = nI j) ∨ (¬ (∃ j, j < n ∧ x = nI j) ∧ (x < 0 ∨ ¬ x < nI n)) := by
  rcases pk_ix x hn with h | h | h
  · right
    refine ⟨fun ⟨j, hj, hx⟩ => ?_, Or.inl h⟩
    rw [hx] at h
    exact nI_pos (by omega) h
  · right
    refine ⟨fun ⟨j, hj, hx⟩ => ?_, Or.inr (Int32.not_lt.mpr h)⟩
    rw [hx] at h
    exact nI_ge hj hn h
  · exact Or.inl h
/-- the items' numbers are 1 .. n -/
theorem it_cases (x : Int32) {n : Nat} (hn : n < 2 ^ 31 - 1) : (∃ j, 1 ≤ j ∧ j ≤ n ∧ x = nI j) ∨ (¬ (∃ j, 1 ≤ j ∧ j ≤ n ∧ x = nI j) ∧ (x < 1 ∨ ¬ x ≤ nI n)) := by
  rcases pk_ix x (n := n + 1) (by omega) with h | h | ⟨j, hj, hx⟩
  · right
    refine ⟨fun ⟨j, j1, j2, hx⟩ => ?_, Or.inl ?_⟩
    · rw [hx] at h
      exact nI_pos (by omega) h
    · rw [Int32.lt_iff_toInt_lt] at h ⊢
      have e1 : (1 : Int32).toInt = 1 := by decide
      have e0' : (0 : Int32).toInt = 0 := by decide
      omega
  · right
    refine ⟨fun ⟨j, j1, j2, hx⟩ => ?_, Or.inr (fun z => ?_)⟩
    · rw [hx] at h
      exact nI_ge (by omega) (by omega) h
    · exact nI_ge (a := n) (b := n + 1) (by omega) (by omega) (Int32.le_trans h z)
  · rcases Nat.eq_zero_or_pos j with z | z
    · right
      subst z
      refine ⟨fun ⟨i, i1, i2', hi⟩ => ?_, Or.inl (by rw [hx]; decide)⟩
      rw [hx] at hi
      have := (nI_eq (by omega) (by omega)).mp hi
      omega
    · exact Or.inl ⟨j, z, by omega, hx⟩
section CL
variable {e0 mi q : Nat} {P : Nat → Nat → Nat} {S : St} {w : Wd} {LE LW : List (Nat × Ed)}
theorem C_fb {x1 : Int32} {nc ns : Nat} {Q : Option Nat → Wd → Prop} {X : String → Wd → Prop} (R : RC e0 S w q P LE LW) (hS : okS S) (h1 : ¬ (∃ b, b < nB S ∧ x1 = nI b) → 1 ≤ nc ∧ 6 ≤ ns ∧ X "java/util/NoSuchElementException" w) (h0 : ∀ b, b < nB S → x1 = nI b → Q (some (P 0 b)) w) : wp_Br_findBelt e0 mi q x1 w nc ns Q X := by
  have hb8 := hS.1.1
  unfold wp_Br_findBelt wb_Br_findBelt_15
  rcases ix_cases x1 (n := nB S) (by omega) with ⟨b, hb, hx⟩ | ⟨hn, hz⟩
  · refine ⟨fun z => absurd z (by rw [hx]; exact nI_pos (by omega)), fun _ => ⟨R.1.1, C_size R (k := 0) (by decide) ?_⟩⟩
    rw [lsx0]
    refine ⟨fun _ => ⟨R.1.1, P 6 0, R.1.2.2.2.2 0 (by decide), (R.2.1.1 0 (by decide)).1, ?_⟩, fun z => absurd (by rw [hx]; exact nI_lt hb (by omega)) z⟩
    rw [hx]
    exact C_beltAt R hb ⟨fun a ha => (by cases ha; exact (R.2.2.1.1 b hb).1), h0 b hb hx⟩
  · refine ⟨fun _ => h1 hn, fun z => ⟨R.1.1, C_size R (k := 0) (by decide) ?_⟩⟩
    rw [lsx0]
    refine ⟨fun z2 => ?_, fun _ => h1 hn⟩
    rcases hz with y | y
    · exact absurd y z
    · exact absurd z2 y
theorem lsx1 (S : St) (P : Nat → Nat → Nat) (LE LW : List (Nat × Ed)) : (lsx S P LE LW 1).length = nT S := by simp [lsx]
theorem C_fi {x1 : Int32} {nc ns : Nat} {Q : Option Nat → Wd → Prop} {X : String → Wd → Prop} (R : RC e0 S w q P LE LW) (hS : okS S) (h1 : ¬ (∃ i, 1 ≤ i ∧ i ≤ nT S ∧ x1 = nI i) → 1 ≤ nc ∧ 6 ≤ ns ∧ X "java/util/NoSuchElementException" w) (h0 : ∀ i, 1 ≤ i → i ≤ nT S → x1 = nI i → Q (some (P 1 i)) w) : wp_Br_findItem e0 mi q x1 w nc ns Q X := by
  have hT := hS.1.2.1
  unfold wp_Br_findItem wb_Br_findItem_16
  rcases it_cases x1 (n := nT S) (by omega) with ⟨i, i1, i2', hx⟩ | ⟨hn, hz⟩
  · refine ⟨fun z => absurd z (by rw [hx]; exact nI_nlt (b := 1) i1 (by omega)), fun _ => ⟨R.1.1, C_size R (k := 1) (by decide) ?_⟩⟩
    rw [lsx1]
    refine ⟨fun _ => ⟨R.1.1, P 6 1, R.1.2.2.2.2 1 (by decide), (R.2.1.1 1 (by decide)).1, ?_⟩, fun z => absurd (by rw [hx]; exact nI_le i2' (by omega)) z⟩
    have e : x1 - 1 = nI (i - 1) := by rw [hx, show i = (i - 1) + 1 by omega, nI_pred]; simp
    rw [e]
    refine isK_get (R.2.1.1 1 (by decide)) (x := P 1 i) ?_ ⟨fun a ha => (by cases ha; exact (R.2.2.2.2.1.1 i i1 i2').1), h0 i i1 i2' hx⟩
    have := range_get (f := fun i => P 1 (i + 1)) (n := nT S) (j := i - 1) (by omega)
    rw [show i - 1 + 1 = i by omega] at this
    exact this
  · refine ⟨fun _ => h1 hn, fun z => ⟨R.1.1, C_size R (k := 1) (by decide) ?_⟩⟩
    rw [lsx1]
    refine ⟨fun z2 => ?_, fun _ => h1 hn⟩
    rcases hz with y | y
    · exact absurd y z
    · exact absurd z2 y
theorem C_on {i : Nat} {nc ns : Nat} {Q : Wd → Prop} {X : String → Wd → Prop} (R : RC e0 S w q P LE LW) (i1 : 1 ≤ i) (i2' : i ≤ nT S) (h1 : ¬ mm S 13 i = 0 → 1 ≤ nc ∧ 6 ≤ ns ∧ X "java/lang/IllegalStateException" w) (h0 : mm S 13 i = 0 → Q w) : wp_Br_checkOnBelt e0 mi (some (P 1 i)) w nc ns Q X := by
  unfold wp_Br_checkOnBelt
  have h5 := R.2.2.2.2.1.1 i i1 i2'
  refine ⟨P 1 i, rfl, h5.1, ?_⟩
  rw [h5.2.2.2.2.1]
  exact ⟨h0, h1⟩
end CL
section MO
variable {e0 mi m : Nat} {A : Nat → Nat} {S : St} {w : Wd}
theorem M_isBelt {x1 : Int32} {Q : Int32 → Wd → Prop} (h : RM S w m A) (hS : okS S) (h1 : ¬ (∃ b, b < nB S ∧ x1 = nI b) → Q 0 w) (h0 : ∀ b, b < nB S → x1 = nI b → Q 1 w) : wp_Mo_isBelt e0 mi m x1 w Q := by
  have hb8 := hS.1.1
  unfold wp_Mo_isBelt
  have l3 : wI w m 3 = nI (nB S) := h.2.2.1.1
  rw [l3]
  have key : rng x1 0 (nI (nB S) - 1) ↔ ∃ b, b < nB S ∧ x1 = nI b := by
    have e : (nI (nB S) - 1).toInt = (nB S : Int) - 1 := by
      have := pk_sub_toInt (a := nB S) (b := 1) (by omega) (by omega)
      exact this
    have e0' : (0 : Int32).toInt = 0 := by decide
    unfold rng
    rw [Int32.lt_iff_toInt_lt, Int32.lt_iff_toInt_lt, e, e0']
    constructor
    · intro z
      rcases ix_cases x1 (n := nB S) (by omega) with y | ⟨-, y⟩
      · exact y
      · exfalso
        rw [Int32.lt_iff_toInt_lt, Int32.lt_iff_toInt_lt, nI_toInt (by omega), e0'] at y
        omega
    · intro ⟨b, hb, hx⟩
      rw [hx, nI_toInt (by omega)]
      omega
  refine ⟨h.1.1, mo_in (fun z => ?_) (fun z => ⟨Or.inl rfl, h1 (fun y => z (key.mpr y))⟩)⟩
  obtain ⟨b, hb, hx⟩ := key.mp z
  exact ⟨Or.inr rfl, h0 b hb hx⟩
theorem M_isItem {x1 : Int32} {Q : Int32 → Wd → Prop} (h : RM S w m A) (hS : okS S) (h1 : ¬ (∃ i, 1 ≤ i ∧ i ≤ nT S ∧ x1 = nI i) → Q 0 w) (h0 : ∀ i, 1 ≤ i → i ≤ nT S → x1 = nI i → Q 1 w) : wp_Mo_isItem e0 mi m x1 w Q := by
  have hT := hS.1.2.1
  unfold wp_Mo_isItem
  have l12 : wI w m 12 = nI (nT S) := h.2.2.1.2.1
  rw [l12]
  have key : rng x1 1 (nI (nT S)) ↔ ∃ i, 1 ≤ i ∧ i ≤ nT S ∧ x1 = nI i := by
    unfold rng
    rcases it_cases x1 (n := nT S) (by omega) with ⟨i, i1, i2', hx⟩ | ⟨hn, hz⟩
    · refine ⟨fun _ => ⟨i, i1, i2', hx⟩, fun _ => ?_⟩
      rw [hx]
      exact ⟨nI_nlt (b := 1) i1 (by omega), nI_nlt i2' (by omega)⟩
    · refine ⟨fun y => ?_, fun y => absurd y hn⟩
      rcases hz with z | z
      · exact absurd z y.1
      · exact absurd (Int32.not_lt.mp y.2) z
  refine ⟨h.1.1, mo_in (fun z => ?_) (fun z => ⟨Or.inl rfl, h1 (fun y => z (key.mpr y))⟩)⟩
  obtain ⟨i, i1, i2', hx⟩ := key.mp z
  exact ⟨Or.inr rfl, h0 i i1 i2' hx⟩
end MO
