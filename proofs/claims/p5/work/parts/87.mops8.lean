/-! CALLS OF THE REFERENCE: join -/
def cwN (S : St) (t : Nat) : Nat → Nat
  | 0 => 0
  | k + 1 => cwN S t k + (if mm S 7 k = nI t then 1 else 0)
theorem cwN_way (S : St) (t : Nat) : ∀ n, cwN S t (2 * n) = wayN S t n
  | 0 => rfl
  | n + 1 => by
    show cwN S t (2 * n + 1 + 1) = _
    unfold wayN
    rw [← cwN_way S t n]
    rfl
theorem cwN_le (S : St) (t : Nat) : ∀ n, cwN S t n ≤ n
  | 0 => Nat.le_refl _
  | n + 1 => by
    have := cwN_le S t n
    unfold cwN
    split <;> omega
section MO
variable {e0 mi m : Nat} {A : Nat → Nat} {S : St} {w : Wd}
theorem M_ways {t : Nat} {x1 x2 x4 : Int32} {Q : Int32 → Wd → Prop} (R : RM S w m A) (h8 : nB S ≤ 8) (hQ : Q (nI (wayN S t (nB S))) w) : ∀ (n k : Nat), k + n = 2 * nB S → wb_Mo_join_103 e0 mi Q (n + 1) m x1 x2 (nI t) x4 (nI (cwN S t k)) (nI k) w := by
  have e3 : (2 : Int32) * wI w m 3 = nI (2 * nB S) := by
    have l3 : wI w m 3 = nI (nB S) := R.2.2.1.1
    have := i2 (nB S) 0
    rw [l3]
    have z : nI 0 = 0 := rfl
    rw [z, Int32.add_zero] at this
    exact this
  intro n
  induction n with
  | zero =>
    intro k hk
    have : k = 2 * nB S := by omega
    subst this
    unfold wb_Mo_join_103
    rw [e3, cwN_way]
    exact ⟨R.1.1, fun _ => hQ, fun z => absurd (nI_le (Nat.le_refl _) (by omega)) z⟩
  | succ n ih =>
    intro k hk
    have k16 : k < 16 := by omega
    have ck : (nI k).toNatClampNeg = k := nI_clamp (by omega)
    have c1 : nI (cwN S t k) + 1 = nI (cwN S t k + 1) := nI_1 _
    have c0 : nI (cwN S t k) + 0 = nI (cwN S t k) := Int32.add_zero _
    unfold wb_Mo_join_103 wb_Mo_join_132
    rw [e3]
    refine ⟨R.1.1, fun z => absurd z (nI_ge (by omega) (by omega)), fun _ => ldA R.1 7 (n := 16) rfl (by decide) rfl rfl k16 ?_⟩
    rw [ck, R.2.2.2.1 7 (by unfold isInt; decide) k k16]
    have := ih (k + 1) (by omega)
    unfold cwN at this
    refine ⟨fun z i1 e1 i2 e2 => ?_, fun z i1 e1 i2 e2 => ?_⟩
    · rw [if_neg z] at this
      rw [e1, e2, c0, nI_1]
      exact this
    · rw [if_pos z] at this
      rw [e1, e2, c1, nI_1]
      exact this
theorem N_join {x1 x2 x3 x4 : Int32} {Q : Int32 → Wd → Prop} (h : RM S w m A) (hS : okS S) (h1 : ¬ ((∃ b, b < nB S ∧ x1 = nI b) ∧ (∃ b, b < nB S ∧ x3 = nI b)) → ∀ w', PM m A S 1 w w' → Q 0 w')
    (h2 : ∀ b t, b < nB S → x1 = nI b → t < nB S → x3 = nI t → ¬ (rng x2 0 1 ∧ rng x4 1 9 ∧ b < t) → ∀ w', PM m A S 2 w w' → Q 0 w')
    (h0 : ∀ b t y, b < nB S → x1 = nI b → t < nB S → x3 = nI t → y < 2 → x2 = nI y → rng x2 0 1 → rng x4 1 9 → b < t → ∀ w', PM m A (joinS S (2 * b + y) t x4) 0 w w' → Q (nI (wayN (joinS S (2 * b + y) t x4) t (nB S))) w') : wp_Mo_join e0 mi m x1 x2 x3 x4 w Q := by
  have hm := h.1.1
  have hb8 := hS.1.1
  have T : ∀ c, ¬ c ≤ (0 : Int32) → Q 0 (sI w m 0 c) → wb_Mo_join_51 e0 mi Q m x1 x2 x3 x4 (some m) c w := fun c hc hq => by
    unfold wb_Mo_join_51
    exact ⟨m, rfl, hm, hm, fun y => absurd y (by rw [cd_e]; exact hc), fun _ => hq⟩
  unfold wp_Mo_join wb_Mo_join_17 wb_Mo_join_46
  refine ⟨hm, M_isBelt h hS (fun z => ⟨fun _ => T 1 (by decide) (h1 (fun y => z y.1) _ (PM_code h FX.rfl 1)), fun y => absurd rfl y⟩) (fun b hb hx => ⟨fun y => absurd y (by decide), fun _ => ⟨hm, M_isBelt h hS (fun z => ⟨fun y => absurd rfl y, fun _ => T 1 (by decide) (h1 (fun y => z y.2) _ (PM_code h FX.rfl 1))⟩) (fun t ht hx3 => ⟨fun _ => ?_, fun y => absurd y (by decide)⟩)⟩⟩)⟩
  have T2 : ¬ (rng x2 0 1 ∧ rng x4 1 9 ∧ b < t) → wb_Mo_join_51 e0 mi Q m x1 x2 x3 x4 (some m) 2 w := fun hn => T 2 (by decide) (h2 b t hb hx ht hx3 hn _ (PM_code h FX.rfl 2))
  refine mo_in (fun z1 => ⟨fun y => absurd y (by decide), fun _ => mo_in (fun z2 => ⟨fun y => absurd y (by decide), fun _ => ⟨fun z3 => ?_, fun z3 => T2 (fun y => z3 (by rw [hx, hx3]; exact nI_lt y.2.2 (by omega)))⟩⟩) (fun z2 => ⟨fun _ => T2 (fun y => z2 y.2.1), fun y => absurd rfl y⟩)⟩) (fun z1 => ⟨fun _ => T2 (fun y => z1 y.1), fun y => absurd rfl y⟩)
  have hbt : b < t := by
    rcases Nat.lt_or_ge b t with u | u
    · exact u
    · rw [hx, hx3] at z3; exact absurd z3 (nI_nlt u (by omega))
  obtain ⟨y, hy, hxy⟩ := nI_of2 (M := 1) (n := 1) (by decide) z1.1 (Int32.not_lt.mp z1.2)
  have hy2 : y < 2 := by omega
  have hq := h0 b t y hb hx ht hx3 hy2 hxy z1 z2 hbt
  have p0 := PM_code h FX.rfl 0
  unfold wb_Mo_join_51
  refine ⟨m, rfl, hm, hm, fun _ => ?_, fun y => absurd (by rw [cd_e]; decide) y⟩
  generalize sI w m 0 0 = u at p0 ⊢
  have ne : ∀ k, 0 < mKd k → A k ≠ m := fun k hk => isM_ne h.1 hk
  have ix : (2 : Int32) * x1 + x2 = nI (2 * b + y) := by rw [hx, hxy]; exact i2 b y
  have ck : (nI (2 * b + y)).toNatClampNeg = 2 * b + y := nI_clamp (by omega)
  rw [ix, ck, hx3]
  have R1 := RM_um p0.1 (k := 7) (i := 2 * b + y) (by unfold isInt; decide) (nI t)
  have R2 := RM_um R1 (k := 8) (i := 2 * b + y) (by unfold isInt; decide) x4
  have R3 := RM_um R2 (k := 9) (i := 2 * b + y) (by unfold isInt; decide) 0
  have F3 := (((FM.rfl (m := m) (A := A) (w := u)).ar (k := 7) (by decide) (ne 7 (by decide)) (2 * b + y) (nI t)).ar (k := 8) (by decide) (ne 8 (by decide)) (2 * b + y) x4).ar (k := 9) (by decide) (ne 9 (by decide)) (2 * b + y) 0
  have R3' : RM (joinS S (2 * b + y) t x4) _ m A := R3
  have hq2 := hq _ (PM_fm p0 F3 R3')
  refine ldA p0.1.1 7 (n := 16) rfl (by decide) rfl rfl (by omega) (ldA R1.1 8 (n := 16) rfl (by decide) rfl rfl (by omega) (ldA R2.1 9 (n := 16) rfl (by decide) rfl rfl (by omega) ⟨2 * nB S + 1, M_ways R3' hb8 hq2 (2 * nB S) 0 (by rw [Nat.zero_add]; rfl)⟩))
end MO
