/-! THE REFERENCE: an item leaves its row -/
/-- while the items behind it come up: the places at .. k - 1 are done -/
def lvS (S : St) (b p k : Nat) (m : Nat) (A : Nat → Nat) (w u : Wd) : Prop :=
  isM u m A ∧ FM m A w u ∧ (∀ a, a ≠ A 10 → a ≠ A 11 → wI u a = wI w a) ∧ wJ u = wJ w ∧ wI u (A 10) b = nI ((rr S b).length - 1) ∧ (∀ c, c ≠ b → wI u (A 10) c = wI w (A 10) c) ∧
  (∀ j, p ≤ j → j < k → wI u (A 11) (60 * b + j) = wI w (A 11) (60 * b + j + 1)) ∧ (∀ x, (x < 60 * b + p ∨ 60 * b + k ≤ x) → wI u (A 11) x = wI w (A 11) x)
theorem lvS_end {S : St} {b p m : Nat} {A : Nat → Nat} {w u : Wd} (h : RM S w m A) (hb : b < 8) (hr : okR S) (hp : p < (rr S b).length) (hu : lvS S b p ((rr S b).length - 1) m A w u) : RM (ur S b ((rr S b).eraseIdx p)) u m A := by
  obtain ⟨h1, ⟨a1, a2, a3⟩, ⟨b1, b2, b3, b4, b5, b6⟩, h4, h5, h6, h7, h8⟩ := h
  obtain ⟨u1, u2, u3, u4, u5, u6, u7, u8⟩ := hu
  have m10 : m ≠ A 10 := fun z => isM_ne h1 (k := 10) (by decide) z.symm
  have m11 : m ≠ A 11 := fun z => isM_ne h1 (k := 11) (by decide) z.symm
  have ns : ∀ s, wI u m s = wI w m s := fun s => by rw [u3 m m10 m11]
  have no : ∀ j, 0 < mKd j → j ≠ 10 → j ≠ 11 → ∀ s, wI u (A j) s = wI w (A j) s := fun j hj n1 n2 s => by rw [u3 _ (isM_nn h1 hj (by decide) n1) (isM_nn h1 hj (by decide) n2)]
  have hlen := (hr b hb).1
  refine ⟨u1, ⟨?_, ?_, ?_⟩, ⟨?_, ?_, ?_, ?_, ?_, ?_⟩, fun j hj s hs => ?_, fun c hc => ⟨?_, fun j x hx => ?_⟩, fun j x hx => ?_, fun j x hx => ?_, fun j x hx => ?_⟩
  · rw [ns]; exact a1
  · rw [ns]; exact a2
  · rw [ns]; exact a3
  · rw [ns]; exact b1
  · rw [ns]; exact b2
  · rw [ns]; exact b3
  · rw [ns]; exact b4
  · rw [ns]; exact b5
  · rw [ns]; exact b6
  · obtain ⟨k1, k2, k3, -⟩ := isInt_kd hj
    rw [no j k1 k2 k3]; exact h4 j hj s hs
  · rw [rr_ur]
    by_cases hcb : c = b
    · rw [if_pos hcb, hcb, u5, List.length_eraseIdx, if_pos hp]
    · rw [if_neg hcb, u6 c hcb]; exact (h5 c hc).1
  · rw [rr_ur] at hx
    by_cases hcb : c = b
    · rw [if_pos hcb] at hx
      subst hcb
      rw [List.getElem?_eraseIdx] at hx
      by_cases hjp : j < p
      · rw [if_pos hjp] at hx
        rw [u8 _ (Or.inl (by omega))]
        exact (h5 c hc).2 j x hx
      · rw [if_neg hjp] at hx
        have hlt := (List.getElem?_eq_some_iff.mp hx).1
        rw [u7 j (by omega) (by omega), Nat.add_assoc]
        exact (h5 c hc).2 (j + 1) x hx
    · rw [if_neg hcb] at hx
      have hlt := (List.getElem?_eq_some_iff.mp hx).1
      have := (hr c hc).1
      rw [u8 _ (by omega)]
      exact (h5 c hc).2 j x hx
  · rw [u4]; exact h6 j x hx
  · rw [u4]; exact h7 j x hx
  · rw [no 31 (by decide) (by decide) (by decide)]; exact h8 j x hx
section MO
variable {e0 mi m : Nat} {A : Nat → Nat} {S : St} {w : Wd}
theorem M_leave_l {b p i : Nat} {z : Int32} {Q : Wd → Prop} (h : RM S w m A) (hb : b < 8) (hr : okR S) (hp : p < (rr S b).length) (hQ : ∀ u, lvS S b p ((rr S b).length - 1) m A w u → Q u) : ∀ (n k : Nat) (u : Wd), k + n = (rr S b).length - 1 → p ≤ k → lvS S b p k m A w u → wb_Mo_leave_26 e0 mi Q (n + 1) m (nI i) (nI b) z (nI k) u := by
  have c : (nI b).toNatClampNeg = b := nI_clamp (by omega)
  have hlen := (hr b hb).1
  intro n
  induction n with
  | zero =>
    intro k u hk hpk hu
    have hkk : k = (rr S b).length - 1 := by omega
    unfold wb_Mo_leave_26
    refine ⟨hu.1.1, ldA hu.1 10 (n := 8) rfl (by decide) rfl rfl hb ?_⟩
    rw [c, hu.2.2.2.2.1]
    refine ⟨fun _ => hQ u (hkk ▸ hu), fun y => absurd (nI_le (by omega) (by omega)) y⟩
  | succ n ih =>
    intro k u hk hpk hu
    unfold wb_Mo_leave_26
    refine ⟨hu.1.1, ldA hu.1 10 (n := 8) rfl (by decide) rfl rfl hb ?_⟩
    rw [c, hu.2.2.2.2.1]
    refine ⟨fun y => absurd y (nI_ge (by omega) (by omega)), fun _ => ?_⟩
    have e1 : ((60 : Int32) * nI b + nI k) + 1 = nI (60 * b + k + 1) := by rw [i60, nI_1]
    refine ldA hu.1 11 (n := 480) rfl (by decide) rfl e1 (by omega) ⟨vA hu.1 11 (n := 480) (by decide) rfl (i60 b k) (by omega), fun i10 e10 => ?_⟩
    rw [e1, i60, nI_clamp (by omega), nI_clamp (by omega), e10, nI_1]
    refine ih (k + 1) _ (by omega) (by omega) ?_
    obtain ⟨u1, u2, u3, u4, u5, u6, u7, u8⟩ := hu
    have n1 : A 10 ≠ A 11 := isM_nn h.1 (by decide) (by decide) (by decide)
    refine ⟨isM_st u1 _ _ _, u2.ar (by decide) (isM_ne h.1 (by decide)) _ _, fun a ha1 ha2 => ?_, u4, ?_, fun c hc => ?_, fun j hj1 hj2 => ?_, fun x hx => ?_⟩
    · rw [← u3 a ha1 ha2]; funext s; rw [pI_I, if_neg (fun y => ha2 y.1)]
    · rw [pI_I, if_neg (fun y => n1 y.1)]; exact u5
    · rw [pI_I, if_neg (fun y => n1 y.1)]; exact u6 c hc
    · rw [pI_I]
      by_cases hjk : j = k
      · subst hjk
        rw [if_pos ⟨rfl, rfl⟩]
        exact u8 _ (Or.inr (by omega))
      · rw [if_neg (fun y => by omega)]
        exact u7 j hj1 (by omega)
    · rw [pI_I, if_neg (fun y => by omega)]
      exact u8 x (by omega)
theorem M_leave {b p i : Nat} {Q : Wd → Prop} (h : RM S w m A) (hb : b < 8) (hi : i < 61) (hbe : mm S 14 i = nI b) (hp : (rr S b)[p]? = some i) (hn : ∀ j, j < p → (rr S b)[j]? ≠ some i) (hr : okR S) (hQ : ∀ w', RM (ur S b ((rr S b).eraseIdx p)) w' m A → FM m A w w' → Q w') : wp_Mo_leave e0 mi m (nI i) w Q := by
  have ci : (nI i).toNatClampNeg = i := nI_clamp (by omega)
  have c : (nI b).toNatClampNeg = b := nI_clamp (by omega)
  have hlt := (List.getElem?_eq_some_iff.mp hp).1
  have hlen := (hr b hb).1
  have hv := h.2.2.2.1 14 (by unfold isInt; decide) i hi
  rw [hbe] at hv
  unfold wp_Mo_leave
  refine ⟨h.1.1, ldA h.1 14 (n := 61) rfl (by decide) rfl rfl hi (fun i5 e5 => ?_)⟩
  rw [ci, hv] at e5
  subst e5
  refine M_indexOf h hb hi hbe hp hn hr ⟨h.1.1, ldA h.1 10 (n := 8) rfl (by decide) rfl rfl hb ⟨vA h.1 10 (n := 8) (by decide) rfl rfl hb, (rr S b).length - 1 - p + 1, ?_⟩⟩
  rw [c, (h.2.2.2.2.1 b hb).1]
  have e1 : nI (rr S b).length - 1 = nI ((rr S b).length - 1) := by
    rw [show (rr S b).length = ((rr S b).length - 1) + 1 by omega, nI_pred]; simp
  rw [e1]
  have n1 : A 11 ≠ A 10 := isM_nn h.1 (by decide) (by decide) (by decide)
  refine M_leave_l h hb hr hlt (fun u hu => hQ u (lvS_end h hb hr hlt hu) hu.2.1) _ p _ (by omega) (Nat.le_refl _) ⟨isM_st h.1 _ _ _, FM.rfl.ar (by decide) (isM_ne h.1 (by decide)) _ _, fun a ha1 ha2 => ?_, rfl, ?_, fun c hc => ?_, fun j h1 h2 => (by omega), fun x _ => ?_⟩
  · funext s; rw [pI_I, if_neg (fun y => ha1 y.1)]
  · rw [pI_I, if_pos ⟨rfl, rfl⟩]
  · rw [pI_I, if_neg (fun y => hc y.2)]
  · rw [pI_I, if_neg (fun y => n1 y.1)]
end MO
