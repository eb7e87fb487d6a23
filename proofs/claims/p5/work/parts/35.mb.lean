/-! STORES OF THE REFERENCE -/
theorem isM_ne {w : Wd} {m : Nat} {A : Nat → Nat} (h : isM w m A) {k : Nat} (hk : 0 < mKd k) : A k ≠ m := fun z => by
  have e1 := (h.2.1 k hk).2.1.2
  rw [z, h.1.2] at e1
  have := mKd_hi hk
  omega
theorem isM_nn {w : Wd} {m : Nat} {A : Nat → Nat} (h : isM w m A) {j k : Nat} (hj : 0 < mKd j) (hk : 0 < mKd k) (hn : j ≠ k) : A j ≠ A k := fun z => hn (h.2.2 j k hj hk z)
theorem isM_st {w : Wd} {m : Nat} {A : Nat → Nat} (h : isM w m A) (a k : Nat) (v : Int32) : isM (sI w a k v) m A := h
/-- a number of the reference, behind a store into one of its arrays -/
theorem sc_a {w : Wd} {m : Nat} {A : Nat → Nat} (h : isM w m A) {k : Nat} (hk : 0 < mKd k) (i : Nat) (v : Int32) (s : Nat) : wI (sI w (A k) i v) m s = wI w m s := by
  rw [pI_I, if_neg (fun z => isM_ne h hk z.1.symm)]
theorem M_belt {e0 mi m b : Nat} {x1 x2 : Int32} {w : Wd} {A : Nat → Nat} {Q : Int32 → Wd → Prop} (hM : isM w m A) (hb : wI w m 3 = nI b) (hb8 : b ≤ 8)
    (h1 : ¬ (rng x1 1 10000 ∧ rng x2 0 1000) → Q 0 (sI w m 0 1)) (h2 : rng x1 1 10000 ∧ rng x2 0 1000 → b = 8 → Q 0 (sI w m 0 2))
    (h0 : rng x1 1 10000 ∧ rng x2 0 1000 → b < 8 → Q (nI b) (sI (sI (sI (sI (sI (sI (sI w m 0 0) (A 4) b x1) (A 5) b x2) (A 6) b 1) (A 7) (2 * b) (-1)) (A 7) (2 * b + 1) (-1)) m 3 (nI (b + 1)))) : wp_Mo_belt e0 mi m x1 x2 w Q := by
  have hm := hM.1
  have T : ∀ z, ¬ z ≤ (0 : Int32) → Q 0 (sI w m 0 z) → wb_Mo_belt_41 e0 mi Q m x1 x2 (some m) z w := fun z hz hq => by
    unfold wb_Mo_belt_41
    exact ⟨m, rfl, hm, hm, fun y => absurd y (by rw [cd_e]; exact hz), fun _ => hq⟩
  unfold wp_Mo_belt wb_Mo_belt_23
  refine mo_in (fun z1 => ⟨fun z => absurd z (by decide), fun _ => mo_in (fun z2 => ⟨fun _ => ⟨hm, fun z3 => ?_, fun z3 => ?_⟩, fun z => absurd z (by decide)⟩) (fun z2 => ⟨fun z => absurd rfl z, fun _ => T 1 (by decide) (h1 (fun y => z2 y.2))⟩)⟩) (fun z1 => ⟨fun _ => T 1 (by decide) (h1 (fun y => z1 y.1)), fun z => absurd rfl z⟩)
  · have hb7 : b < 8 := by
      rcases Nat.lt_or_eq_of_le hb8 with z | z
      · exact z
      · subst z; exact absurd hb z3
    unfold wb_Mo_belt_41
    refine ⟨m, rfl, hm, hm, fun _ => ?_, fun z => absurd (by rw [cd_e]; decide) z⟩
    have hq := h0 ⟨z1, z2⟩ hb7
    have cb : (nI b).toNatClampNeg = b := nI_clamp (by omega)
    have c2 : ((2 : Int32) * nI b).toNatClampNeg = 2 * b := by
      rw [show (2 : Int32) * nI b = nI (2 * b) from (Int32.ofNat_mul 2 b).symm]; exact nI_clamp (by omega)
    have c3 : ((2 : Int32) * nI b + 1).toNatClampNeg = 2 * b + 1 := by
      rw [show (2 : Int32) * nI b = nI (2 * b) from (Int32.ofNat_mul 2 b).symm, nI_1]; exact nI_clamp (by omega)
    have v2 : vp_in ((2 : Int32) * nI b) 16 := by
      rw [show (2 : Int32) * nI b = nI (2 * b) from (Int32.ofNat_mul 2 b).symm]; exact vp_in_nI (by omega) (by decide)
    have v3 : vp_in ((2 : Int32) * nI b + 1) 16 := by
      rw [show (2 : Int32) * nI b = nI (2 * b) from (Int32.ofNat_mul 2 b).symm, nI_1]; exact vp_in_nI (by omega) (by decide)
    have vb : vp_in (nI b) 8 := vp_in_nI hb7 (by decide)
    have nb1 : vp_nar .boolean (1 : Int32) = 1 := by rfl
    have M1 : isM (sI w m 0 0) m A := isM_st hM _ _ _
    have f1 : wI (sI w m 0 0) m 3 = nI b := by rw [cd_o w m 0 (by decide), hb]
    generalize sI w m 0 0 = u1 at hq M1 f1 ⊢
    rw [f1, cb]
    refine ⟨A 4, (M1.2.1 4 (by decide)).1, (M1.2.1 4 (by decide)).2.1, by rw [(M1.2.1 4 (by decide)).2.2]; exact vb, ?_⟩
    have M2 : isM (sI u1 (A 4) b x1) m A := isM_st M1 _ _ _
    have f2 : wI (sI u1 (A 4) b x1) m 3 = nI b := by rw [sc_a M1 (by decide), f1]
    generalize sI u1 (A 4) b x1 = u2 at hq M2 f2 ⊢
    rw [f2, cb]
    refine ⟨A 5, (M2.2.1 5 (by decide)).1, (M2.2.1 5 (by decide)).2.1, by rw [(M2.2.1 5 (by decide)).2.2]; exact vb, ?_⟩
    have M3 : isM (sI u2 (A 5) b x2) m A := isM_st M2 _ _ _
    have f3 : wI (sI u2 (A 5) b x2) m 3 = nI b := by rw [sc_a M2 (by decide), f2]
    generalize sI u2 (A 5) b x2 = u3 at hq M3 f3 ⊢
    rw [f3, cb, nb1]
    refine ⟨A 6, (M3.2.1 6 (by decide)).1, (M3.2.1 6 (by decide)).2.1, by rw [(M3.2.1 6 (by decide)).2.2]; exact vb, ?_⟩
    have M4 : isM (sI u3 (A 6) b 1) m A := isM_st M3 _ _ _
    have f4 : wI (sI u3 (A 6) b 1) m 3 = nI b := by rw [sc_a M3 (by decide), f3]
    generalize sI u3 (A 6) b 1 = u4 at hq M4 f4 ⊢
    rw [f4, c2]
    refine ⟨A 7, (M4.2.1 7 (by decide)).1, (M4.2.1 7 (by decide)).2.1, by rw [(M4.2.1 7 (by decide)).2.2]; exact v2, ?_⟩
    have M5 : isM (sI u4 (A 7) (2 * b) (-1)) m A := isM_st M4 _ _ _
    have f5 : wI (sI u4 (A 7) (2 * b) (-1)) m 3 = nI b := by rw [sc_a M4 (by decide), f4]
    generalize sI u4 (A 7) (2 * b) (-1) = u5 at hq M5 f5 ⊢
    rw [f5, c3]
    refine ⟨A 7, (M5.2.1 7 (by decide)).1, (M5.2.1 7 (by decide)).2.1, by rw [(M5.2.1 7 (by decide)).2.2]; exact v3, ?_⟩
    have f6 : wI (sI u5 (A 7) (2 * b + 1) (-1)) m 3 = nI b := by rw [sc_a M5 (by decide), f5]
    generalize sI u5 (A 7) (2 * b + 1) (-1) = u6 at hq f6 ⊢
    rw [f6, nI_1, pI_I, if_pos ⟨rfl, rfl⟩, nI_pred]
    exact hq
  · have e8 : b = 8 := (nI_eq (by omega) (by decide)).mp (hb.symm.trans z3)
    exact T 2 (by decide) (h2 ⟨z1, z2⟩ e8)
/-! COUNT, OF NEW OBJECTS -/
theorem ct_cl {e0 mi q : Nat} {x1 : Int32} {w : Wd} {B : Nat → Nat} {Q : Int32 → Wd → Prop} (h : eC w q B) (h7 : wI w q 7 = 0) (h0 : ¬ (x1.toInt < 0 ∨ 7 < x1.toInt) → Q 0 w) (h1 : (x1.toInt < 0 ∨ 7 < x1.toInt) → Q (-1) w) : wp_Br_count e0 mi q x1 w Q := by
  unfold wp_Br_count wp_Br_itemsOnBelts
  refine ⟨fun z => ⟨h.1, e_size h (by decide) (h0 (by subst z; decide))⟩, fun z => ⟨h.1, e_size h (by decide) (h0 (by subst z; decide))⟩, fun z => ⟨h.1, 1, ?_⟩, fun z => ⟨h.1, e_size h (by decide) (h0 (by subst z; decide))⟩, fun z => ⟨h.1, e_size h (by decide) (h0 (by subst z; decide))⟩, fun z => ⟨h.1, ?_⟩, fun z => ⟨h.1, e_size h (by decide) (h0 (by subst z; decide))⟩, fun z => ⟨h.1, e_size h (by decide) (h0 (by subst z; decide))⟩, h1⟩
  · unfold wb_Br_itemsOnBelts_4
    exact ⟨h.1, e_size h (by decide) ⟨fun _ => h0 (by subst z; decide), fun y => absurd (by decide) y⟩⟩
  · rw [h7]; exact h0 (by subst z; decide)
theorem ct_mo {e0 mi m : Nat} {x1 : Int32} {w : Wd} {Q : Int32 → Wd → Prop} (hm : bw_is w m 6) (hz : ∀ j, j ≠ 2 → wI w m j = 0) (h0 : ¬ (x1.toInt < 0 ∨ 7 < x1.toInt) → Q 0 (sI w m 0 0)) (h1 : (x1.toInt < 0 ∨ 7 < x1.toInt) → Q (-1) (sI w m 0 0)) : wp_Mo_count e0 mi m x1 w Q := by
  have hz' : ∀ j, j ≠ 2 → wI (sI w m 0 0) m j = 0 := fun j hj => by
    rw [pI_I]
    by_cases h : j = 0
    · rw [if_pos ⟨rfl, h⟩]
    · rw [if_neg (fun z => h z.2)]; exact hz j hj
  have M1 : bw_is (sI w m 0 0) m 6 := hm
  unfold wp_Mo_count
  generalize sI w m 0 0 = u at h0 h1 hz' M1 ⊢
  rw [hz' 25 (by decide), hz' 21 (by decide), hz' 1 (by decide), hz' 27 (by decide), hz' 29 (by decide), hz' 12 (by decide), hz' 3 (by decide)]
  refine ⟨hm, fun n0 => ⟨fun n1 => ⟨fun n3 => ⟨fun n4 => ⟨fun n5 => ⟨fun n6 => ⟨fun n7 => ⟨1, ?_⟩, fun z => ?_⟩, fun z => ?_⟩, fun z => ?_⟩, fun z => ?_⟩, fun z => ?_⟩, fun z => ?_⟩, fun z => ?_⟩
  · unfold wb_Mo_count_80 wb_Mo_count_113
    refine ⟨M1, fun _ => ⟨fun n2 => h1 ?_, fun z => h0 (by subst z; decide)⟩, fun y => absurd (by rw [hz' 3 (by decide)]; decide) y⟩
    apply Decidable.byContradiction
    intro hn
    have e : ∀ (k : Int), x1.toInt = k → ∀ c : Int32, c.toInt = k → x1 = c := fun k h c hc => Int32.toInt_inj.mp (h.trans hc.symm)
    have hr : x1.toInt = 0 ∨ x1.toInt = 1 ∨ x1.toInt = 2 ∨ x1.toInt = 3 ∨ x1.toInt = 4 ∨ x1.toInt = 5 ∨ x1.toInt = 6 ∨ x1.toInt = 7 := by omega
    rcases hr with z | z | z | z | z | z | z | z
    · exact n0 (e _ z 0 (by decide))
    · exact n1 (e _ z 1 (by decide))
    · exact n2 (e _ z 2 (by decide))
    · exact n3 (e _ z 3 (by decide))
    · exact n4 (e _ z 4 (by decide))
    · exact n5 (e _ z 5 (by decide))
    · exact n6 (e _ z 6 (by decide))
    · exact n7 (e _ z 7 (by decide))
  all_goals exact h0 (by subst z; decide)
