/-! CALLS OF THE CLASS: run, gaps, divert, slip, take -/
section CL
variable {e0 mi q : Nat} {P : Nat → Nat → Nat} {S : St} {w : Wd} {LE LW : List (Nat × Ed)}
theorem RC_run {b : Nat} (R : RC e0 S w q P LE LW) (hS : okS S) (hb : b < nB S) (v on : Int32) : RC e0 (um (um S 5 b v) 6 b on) (sI (sI w (P 0 b) 2 v) (P 0 b) 3 on) q P LE LW ∧ FrC w (sI (sI w (P 0 b) 2 v) (P 0 b) 3 on) := by
  obtain ⟨r1, r2, r3, r4, r5, r6, r7, r8⟩ := R
  have h3b := (r3.1 b hb).1
  have K : Kp (fun x => x = P 0 b) w (sI (sI w (P 0 b) 2 v) (P 0 b) 3 on) := ((Kp.rfl (X := fun x => x = P 0 b)).sI (fun _ => rfl)).sI (fun _ => rfl)
  have kN : ∀ ci, ci ≠ 0 → ∀ a, bw_is w a ci → ¬ a = P 0 b := fun ci hci a ha => is_ne ha h3b hci
  have em : ∀ k, k ≠ 5 → k ≠ 6 → mm (um (um S 5 b v) 6 b on) k = mm S k := fun k h1 h2 => by rw [mm_um_ne _ _ _ h2, mm_um_ne _ _ _ h1]
  have e5 := c5_kp r5 K (kN 2 (by decide))
  have e6 := c6_kp r6 r5 hS K (kN 2 (by decide))
  refine ⟨⟨c1_eq (c1_kp r1 K (kN 5 (by decide))) (em 1 (by decide) (by decide)) (em 2 (by decide) (by decide)) (em 30 (by decide) (by decide)), c2_eq (c2_kp r2 K (kN 7 (by decide)) (kN 100 (by decide))) (fun _ => rfl) (fun _ => rfl), ⟨fun c hc => ?_, r3.2⟩, c4_eq (c4_kp r4 K (kN 4 (by decide))) rfl (em 7 (by decide) (by decide)) (em 8 (by decide) (by decide)) (em 9 (by decide) (by decide)), ?_, e6, c7_eq (c7_kp r7 K (kN 3 (by decide))) rfl rfl (em 22 (by decide) (by decide)) (em 23 (by decide) (by decide)) (em 24 (by decide) (by decide)), c8_eq (c8_kp r8 K (kN 1 (by decide))) rfl rfl⟩, K.frC (fun a ha z => by rw [z, h3b.2]; unfold kM; omega)⟩
  · replace hc : c < nB S := hc
    obtain ⟨q0, q1, q2, q3, q4, q5, q6, q7, q8, q9⟩ := r3.1 c hc
    rw [em 4 (by decide) (by decide)]
    by_cases hcb : c = b
    · subst hcb
      refine ⟨q0, ?_, ?_, ?_, ?_, ?_, q6, q7, q8, q9⟩
      · rw [pI_I, if_neg (fun y => by simp at y), pI_I, if_neg (fun y => by simp at y)]; exact q1
      · rw [pI_I, if_neg (fun y => by simp at y), pI_I, if_neg (fun y => by simp at y)]; exact q2
      · rw [pI_I, if_neg (fun y => by simp at y), pI_I, if_pos ⟨rfl, rfl⟩, mm_um_ne _ _ _ (by decide), mm_um_at]
      · rw [pI_I, if_pos ⟨rfl, rfl⟩, mm_um_at]
      · rw [pI_I, if_neg (fun y => by simp at y), pI_I, if_neg (fun y => by simp at y)]; exact q5
    · have hne : P 0 c ≠ P 0 b := fun z => hcb (r3.2 c b hc hb z)
      have ee : ∀ s, wI (sI (sI w (P 0 b) 2 v) (P 0 b) 3 on) (P 0 c) s = wI w (P 0 c) s := fun s => by rw [pI_I, if_neg (fun y => hne y.1), pI_I, if_neg (fun y => hne y.1)]
      have x5 : mm (um (um S 5 b v) 6 b on) 5 c = mm S 5 c := by rw [mm_um_ne _ _ _ (by decide), mm_um, if_neg (fun z => hcb z.2)]
      have x6 : mm (um (um S 5 b v) 6 b on) 6 c = mm S 6 c := by rw [mm_um, if_neg (fun z => hcb z.2), mm_um_ne _ _ _ (by decide)]
      rw [ee, ee, ee, ee, ee, x5, x6]
      exact ⟨q0, q1, q2, q3, q4, q5, q6, q7, q8, q9⟩
  · unfold c5 at *
    rw [em 13 (by decide) (by decide), em 14 (by decide) (by decide), em 15 (by decide) (by decide), em 16 (by decide) (by decide), em 17 (by decide) (by decide), em 18 (by decide) (by decide), em 19 (by decide) (by decide), em 20 (by decide) (by decide)]; exact e5
theorem B_run {x1 x2 x3 : Int32} {nc ns : Nat} {Q : Wd → Prop} {X : String → Wd → Prop} (R : RC e0 S w q P LE LW) (hS : okS S) (hc : 2 ≤ nc) (hs : 12 ≤ ns) (hb3 : bw_b x3) (h1 : ¬ (∃ b, b < nB S ∧ x1 = nI b) → X "java/util/NoSuchElementException" w) (h2 : (∃ b, b < nB S ∧ x1 = nI b) → ¬ rng x2 0 1000 → X "java/lang/IllegalArgumentException" w)
    (h0 : ∀ b, b < nB S → x1 = nI b → rng x2 0 1000 → ∀ w', RC e0 (um (um S 5 b x2) 6 b x3) w' q P LE LW → FrC w w' → Q w') : wp_Br_run e0 mi q x1 x2 x3 w nc ns Q X := by
  unfold wp_Br_run
  refine ⟨R.1.1, 1, 6, by omega, by omega, C_fb R hS (fun z => ⟨Nat.le_refl _, Nat.le_refl _, h1 z⟩) (fun b hb hx => ⟨1, 6, by omega, by omega, ck_ok (fun z => ⟨Nat.le_refl _, Nat.le_refl _, h2 ⟨b, hb, hx⟩ z⟩) (fun z => ⟨P 0 b, rfl, (R.2.2.1.1 b hb).1, hb3, ?_⟩)⟩)⟩
  obtain ⟨R', F'⟩ := RC_run R hS hb x2 x3
  exact h0 b hb hx z _ R' F'
theorem B_gaps {x1 : Int32} {nc ns : Nat} {Q : Wd → Prop} {X : String → Wd → Prop} (R : RC e0 S w q P LE LW) (hS : okS S) (hc : 1 ≤ nc) (hs : 6 ≤ ns) (h1 : ¬ rng x1 0 1000 → X "java/lang/IllegalArgumentException" w)
    (h0 : rng x1 0 1000 → ∀ w', RC e0 (um S 2 0 x1) w' q P LE LW → FrC w w' → Q w') : wp_Br_gaps e0 mi q x1 w nc ns Q X := by
  unfold wp_Br_gaps
  refine ⟨nc, ns, Nat.le_refl _, Nat.le_refl _, ck_ok (fun z => ⟨hc, hs, h1 z⟩) (fun z => ⟨R.1.1, ?_⟩)⟩
  obtain ⟨R', F'⟩ := RC_gap R hS x1
  exact h0 z _ R' F'
/-- two numbers of an item that is on a belt -/
theorem RC_item2 {b i s1 s2 k1 k2 : Nat} {v1 v2 : Int32} (R : RC e0 S w q P LE LW) (hS : okS S) (him : i ∈ rr S b) (hs : (s1 = 9 ∧ k1 = 17 ∧ s2 = 10 ∧ k2 = 18)) : RC e0 (um (um S k1 i v1) k2 i v2) (sI (sI w (P 1 i) s1 v1) (P 1 i) s2 v2) q P LE LW ∧ FrC w (sI (sI w (P 1 i) s1 v1) (P 1 i) s2 v2) := by
  obtain ⟨rfl, rfl, rfl, rfl⟩ := hs
  obtain ⟨-, i1, i2', i3, -⟩ := in_row hS him
  obtain ⟨r1, r2, r3, r4, r5, r6, r7, r8⟩ := R
  have h5i := (r5.1 i i1 i2').1
  have K : Kp (fun x => x = P 1 i) w (sI (sI w (P 1 i) 9 v1) (P 1 i) 10 v2) := ((Kp.rfl (X := fun x => x = P 1 i)).sI (fun _ => rfl)).sI (fun _ => rfl)
  have kN : ∀ ci, ci ≠ 2 → ∀ a, bw_is w a ci → ¬ a = P 1 i := fun ci hci a ha => is_ne ha h5i hci
  have em : ∀ k, k ≠ 17 → k ≠ 18 → mm (um (um S 17 i v1) 18 i v2) k = mm S k := fun k h1 h2 => by rw [mm_um_ne _ _ _ h2, mm_um_ne _ _ _ h1]
  have e3 := c3_kp r3 K (kN 0 (by decide))
  refine ⟨⟨c1_eq (c1_kp r1 K (kN 5 (by decide))) (em 1 (by decide) (by decide)) (em 2 (by decide) (by decide)) (em 30 (by decide) (by decide)), c2_eq (c2_kp r2 K (kN 7 (by decide)) (kN 100 (by decide))) (fun _ => rfl) (fun _ => rfl), ?_, c4_eq (c4_kp r4 K (kN 4 (by decide))) rfl (em 7 (by decide) (by decide)) (em 8 (by decide) (by decide)) (em 9 (by decide) (by decide)), ⟨fun j j1 j2 => ?_, r5.2⟩, fun c k j hk => r6 c k j hk, c7_eq (c7_kp r7 K (kN 3 (by decide))) rfl rfl (em 22 (by decide) (by decide)) (em 23 (by decide) (by decide)) (em 24 (by decide) (by decide)), c8_eq (c8_kp r8 K (kN 1 (by decide))) rfl rfl⟩, K.frC (fun a ha z => by rw [z, h5i.2]; unfold kM; omega)⟩
  · unfold c3 at *
    rw [em 4 (by decide) (by decide), em 5 (by decide) (by decide), em 6 (by decide) (by decide)]; exact e3
  · rw [em 16 (by decide) (by decide), em 20 (by decide) (by decide), em 13 (by decide) (by decide), em 14 (by decide) (by decide), em 15 (by decide) (by decide), em 19 (by decide) (by decide)]
    obtain ⟨q0, q1, q2, q3, q4, q5, q6⟩ := r5.1 j j1 j2
    by_cases hji : j = i
    · subst hji
      refine ⟨q0, ?_, ?_, ?_, ?_, q5, fun z => ⟨?_, ?_, ?_, ?_⟩⟩
      · rw [pI_I, if_neg (fun y => by simp at y), pI_I, if_neg (fun y => by simp at y)]; exact q1
      · rw [pI_I, if_neg (fun y => by simp at y), pI_I, if_neg (fun y => by simp at y)]; exact q2
      · rw [pI_I, if_neg (fun y => by simp at y), pI_I, if_neg (fun y => by simp at y)]; exact q3
      · rw [pI_I, if_neg (fun y => by simp at y), pI_I, if_neg (fun y => by simp at y)]; exact q4
      · rw [pI_I, if_neg (fun y => by simp at y), pI_I, if_neg (fun y => by simp at y)]; exact (q6 z).1
      · rw [pI_I, if_neg (fun y => by simp at y), pI_I, if_neg (fun y => by simp at y)]; exact (q6 z).2.1
      · rw [pI_I, if_neg (fun y => by simp at y), pI_I, if_pos ⟨rfl, rfl⟩, mm_um_ne _ _ _ (by decide), mm_um_at]
      · rw [pI_I, if_pos ⟨rfl, rfl⟩, mm_um_at]
    · have hne : P 1 j ≠ P 1 i := fun z => hji (r5.2 j i j1 j2 i1 i2' z)
      have ee : ∀ s, wI (sI (sI w (P 1 i) 9 v1) (P 1 i) 10 v2) (P 1 j) s = wI w (P 1 j) s := fun s => by rw [pI_I, if_neg (fun y => hne y.1), pI_I, if_neg (fun y => hne y.1)]
      have x17 : mm (um (um S 17 i v1) 18 i v2) 17 j = mm S 17 j := by rw [mm_um_ne _ _ _ (by decide), mm_um, if_neg (fun z => hji z.2)]
      have x18 : mm (um (um S 17 i v1) 18 i v2) 18 j = mm S 18 j := by rw [mm_um, if_neg (fun z => hji z.2), mm_um_ne _ _ _ (by decide)]
      rw [ee, ee, ee, ee, ee, ee, ee, ee, x17, x18]
      exact ⟨q0, q1, q2, q3, q4, q5, q6⟩
/-- an item that is on a belt is in its row -/
theorem on_row (hS : okS S) {i : Nat} (i1 : 1 ≤ i) (i2' : i ≤ nT S) (h0 : mm S 13 i = 0) : ∃ b p : Nat, (rr S b)[p]? = some i := by
  obtain ⟨b, -, -, hb⟩ := hS.2.2.2.2.1 i i1 i2'
  obtain ⟨p, hp⟩ := List.mem_iff_getElem?.mp (hb h0)
  exact ⟨b, p, hp⟩
theorem B_divert {x1 x2 : Int32} {nc ns : Nat} {Q : Int32 → Wd → Prop} {X : String → Wd → Prop} (R : RC e0 S w q P LE LW) (hS : okS S) (hc : 3 ≤ nc) (hs : 18 ≤ ns) (h1 : ¬ (∃ i, 1 ≤ i ∧ i ≤ nT S ∧ x1 = nI i) → X "java/util/NoSuchElementException" w) (h2 : (∃ i, 1 ≤ i ∧ i ≤ nT S ∧ x1 = nI i) → ¬ rng x2 0 1 → X "java/lang/IllegalArgumentException" w)
    (h3 : ∀ i, 1 ≤ i → i ≤ nT S → x1 = nI i → rng x2 0 1 → ¬ mm S 13 i = 0 → X "java/lang/IllegalStateException" w)
    (h0 : ∀ i, 1 ≤ i → i ≤ nT S → x1 = nI i → rng x2 0 1 → mm S 13 i = 0 → ∀ w', RC e0 (um (um S 17 i x2) 18 i 1) w' q P LE LW → FrC w w' → Q (if mm S 18 i = 0 then 1 else 2) w') : wp_Br_divert e0 mi q x1 x2 w nc ns Q X := by
  unfold wp_Br_divert
  refine ⟨R.1.1, 1, 6, by omega, by omega, C_fi R hS (fun z => ⟨Nat.le_refl _, Nat.le_refl _, h1 z⟩) (fun i i1 i2' hx => ⟨1, 6, by omega, by omega, ck_ok (fun z => ⟨Nat.le_refl _, Nat.le_refl _, h2 ⟨i, i1, i2', hx⟩ z⟩) (fun z => ⟨1, 6, by omega, by omega, C_on R i1 i2' (fun z2 => ⟨Nat.le_refl _, Nat.le_refl _, h3 i i1 i2' hx z z2⟩) (fun z2 => ⟨P 1 i, rfl, (R.2.2.2.2.1.1 i i1 i2').1, ?_⟩)⟩)⟩)⟩
  obtain ⟨b, p, hp⟩ := on_row hS i1 i2' z2
  obtain ⟨R', F'⟩ := RC_item2 (v1 := x2) (v2 := 1) R hS (List.mem_of_getElem? hp) ⟨rfl, rfl, rfl, rfl⟩
  have h5 := R.2.2.2.2.1.1 i i1 i2'
  have hq := h0 i i1 i2' hx z z2 _ R' F'
  rw [(h5.2.2.2.2.2.2 z2).2.2.2]
  unfold wb_Br_divert_28
  refine ⟨fun z3 => ⟨P 1 i, rfl, h5.1, ?_⟩, fun z3 => ⟨P 1 i, rfl, h5.1, ?_⟩⟩
  · rw [if_pos z3] at hq; exact hq
  · rw [if_neg z3] at hq; exact hq
theorem B_take {x1 : Int32} {nc ns : Nat} {Q : Wd → Prop} {X : String → Wd → Prop} (R : RC e0 S w q P LE LW) (hS : okS S) (hc : 2 ≤ nc) (hs : 12 ≤ ns) (h1 : ¬ (∃ i, 1 ≤ i ∧ i ≤ nT S ∧ x1 = nI i) → X "java/util/NoSuchElementException" w)
    (h3 : ∀ i, 1 ≤ i → i ≤ nT S → x1 = nI i → ¬ mm S 13 i = 0 → X "java/lang/IllegalStateException" w)
    (h0 : ∀ i b p, (rr S b)[p]? = some i → x1 = nI i → ∀ w', RC e0 (um (ur S b ((rr S b).eraseIdx p)) 13 i 2) w' q P LE LW → FrC w w' → Q w') : wp_Br_take e0 mi q x1 w nc ns Q X := by
  unfold wp_Br_take
  refine ⟨R.1.1, 1, 6, by omega, by omega, C_fi R hS (fun z => ⟨Nat.le_refl _, Nat.le_refl _, h1 z⟩) (fun i i1 i2' hx => ⟨1, 6, by omega, by omega, C_on R i1 i2' (fun z2 => ⟨Nat.le_refl _, Nat.le_refl _, h3 i i1 i2' hx z2⟩) (fun z2 => ⟨P 1 i, rfl, (R.2.2.2.2.1.1 i i1 i2').1, ?_⟩)⟩)⟩
  obtain ⟨b, p, hp⟩ := on_row hS i1 i2' z2
  exact C_leave R hS hp (by decide) (fun w' R' F' _ => h0 i b p hp hx w' R' F')
end CL
