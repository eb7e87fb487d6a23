/-! THE CLASS: an item goes on -/
theorem i32_min (a b : Int32) : (if a < b then a else b).toInt = min a.toInt b.toInt := by
  by_cases h : a < b
  · rw [if_pos h]; rw [Int32.lt_iff_toInt_lt] at h; omega
  · rw [if_neg h]; rw [Int32.lt_iff_toInt_lt] at h; omega
theorem i32_max (a b : Int32) : (if a < b then b else a).toInt = max a.toInt b.toInt := by
  by_cases h : a < b
  · rw [if_pos h]; rw [Int32.lt_iff_toInt_lt] at h; omega
  · rw [if_neg h]; rw [Int32.lt_iff_toInt_lt] at h; omega
theorem to_eq {S : St} {b i : Nat} {most z0 i4 i5 : Int32} (hz : z0.toInt = min most.toInt (mm S 4 b).toInt) (h4 : i4 = (if z0 < (mm S 15 i + mm S 5 b) then z0 else (mm S 15 i + mm S 5 b))) (h5 : i5 = (if mm S 15 i < i4 then i4 else mm S 15 i)) : i5 = toS S b most i := by
  apply Int32.toInt_inj.mp
  unfold toS
  simp only []
  rw [h5, i32_max, i32_max, h4, i32_min, hz, i32_min, i32_min]
  omega
theorem st_sub {S : St} {i : Nat} {k : Nat} (e t : Int32) (h1 : k ≠ 15) (h2 : k ≠ 19) : mm (um (um S 19 i e) 15 i t) k = mm S k := by rw [mm_um_ne _ _ _ h1, mm_um_ne _ _ _ h2]
section CL
variable {e0 mi q : Nat} {P : Nat → Nat → Nat} {S : St} {w : Wd} {LE LW : List (Nat × Ed)}
/-- the item i has another place and another expected place -/
theorem RC_place {b i : Nat} (R : RC e0 S w q P LE LW) (hS : okS S) (him : i ∈ rr S b) (e t : Int32) : RC e0 (um (um S 19 i e) 15 i t) (sI (sI w (P 1 i) 7 t) (P 1 i) 8 e) q P LE LW ∧ FrC w (sI (sI w (P 1 i) 7 t) (P 1 i) 8 e) := by
  obtain ⟨-, i1, i2', i3, -⟩ := in_row hS him
  obtain ⟨r1, r2, r3, r4, r5, r6, r7, r8⟩ := R
  have h5i := (r5.1 i i1 i2').1
  have K : Kp (fun x => x = P 1 i) w (sI (sI w (P 1 i) 7 t) (P 1 i) 8 e) := ((Kp.rfl (X := fun x => x = P 1 i)).sI (fun _ => rfl)).sI (fun _ => rfl)
  have kN : ∀ ci, ci ≠ 2 → ∀ a, bw_is w a ci → ¬ a = P 1 i := fun ci hci a ha => is_ne ha h5i hci
  have em : ∀ k, k ≠ 15 → k ≠ 19 → mm (um (um S 19 i e) 15 i t) k = mm S k := fun k h1 h2 => st_sub e t h1 h2
  have e3 := c3_kp r3 K (kN 0 (by decide))
  refine ⟨⟨c1_eq (c1_kp r1 K (kN 5 (by decide))) (em 1 (by decide) (by decide)) (em 2 (by decide) (by decide)) (em 30 (by decide) (by decide)), c2_eq (c2_kp r2 K (kN 7 (by decide)) (kN 100 (by decide))) (fun _ => rfl) (fun _ => rfl), ?_, c4_eq (c4_kp r4 K (kN 4 (by decide))) rfl (em 7 (by decide) (by decide)) (em 8 (by decide) (by decide)) (em 9 (by decide) (by decide)), ⟨fun j j1 j2 => ?_, r5.2⟩, fun c k j hk => ?_, c7_eq (c7_kp r7 K (kN 3 (by decide))) rfl rfl (em 22 (by decide) (by decide)) (em 23 (by decide) (by decide)) (em 24 (by decide) (by decide)), c8_eq (c8_kp r8 K (kN 1 (by decide))) rfl rfl⟩, K.frC (fun a ha z => by rw [z, h5i.2]; unfold kM; omega)⟩
  · unfold c3 at *
    rw [em 4 (by decide) (by decide), em 5 (by decide) (by decide), em 6 (by decide) (by decide)]; exact e3
  · rw [em 16 (by decide) (by decide), em 20 (by decide) (by decide), em 13 (by decide) (by decide), em 14 (by decide) (by decide), em 17 (by decide) (by decide), em 18 (by decide) (by decide)]
    obtain ⟨q0, q1, q2, q3, q4, q5, q6⟩ := r5.1 j j1 j2
    by_cases hji : j = i
    · subst hji
      refine ⟨q0, ?_, ?_, ?_, ?_, q5, fun z => ⟨?_, ?_, ?_, ?_⟩⟩
      · rw [pI_I, if_neg (fun y => by simp at y), pI_I, if_neg (fun y => by simp at y)]; exact q1
      · rw [pI_I, if_neg (fun y => by simp at y), pI_I, if_neg (fun y => by simp at y)]; exact q2
      · rw [pI_I, if_neg (fun y => by simp at y), pI_I, if_neg (fun y => by simp at y)]; exact q3
      · rw [pI_I, if_neg (fun y => by simp at y), pI_I, if_neg (fun y => by simp at y)]; exact q4
      · rw [pI_I, if_neg (fun y => by simp at y), pI_I, if_pos ⟨rfl, rfl⟩, mm_um_at]
      · rw [pI_I, if_pos ⟨rfl, rfl⟩, mm_um_ne _ _ _ (by decide), mm_um_at]
      · rw [pI_I, if_neg (fun y => by simp at y), pI_I, if_neg (fun y => by simp at y)]; exact (q6 z).2.2.1
      · rw [pI_I, if_neg (fun y => by simp at y), pI_I, if_neg (fun y => by simp at y)]; exact (q6 z).2.2.2
    · have hne : P 1 j ≠ P 1 i := fun z => hji (r5.2 j i j1 j2 i1 i2' z)
      have ee : ∀ s, wI (sI (sI w (P 1 i) 7 t) (P 1 i) 8 e) (P 1 j) s = wI w (P 1 j) s := fun s => by rw [pI_I, if_neg (fun y => hne y.1), pI_I, if_neg (fun y => hne y.1)]
      have e15 : mm (um (um S 19 i e) 15 i t) 15 j = mm S 15 j := by rw [mm_um, if_neg (fun z => hji z.2), mm_um_ne _ _ _ (by decide)]
      have e19 : mm (um (um S 19 i e) 15 i t) 19 j = mm S 19 j := by rw [mm_um_ne _ _ _ (by decide), mm_um, if_neg (fun z => hji z.2)]
      rw [ee, ee, ee, ee, ee, ee, ee, ee, e15, e19]
      exact ⟨q0, q1, q2, q3, q4, q5, q6⟩
  · exact r6 c k j hk
theorem C_goOn {b p i : Nat} {Q : Wd → Prop} (R : RC e0 S w q P LE LW) (hS : okS S) (hp : (rr S b)[p]? = some i)
    (hQ : ∀ w', RC e0 (um (um S 19 i (expS S b i)) 15 i (toS S b (mostS S b (prevO (rr S b) p)) i)) w' q P LE LW → FrC w w' → Q w') : wp_It_goOn e0 mi (P 1 i) (some (P 0 b)) (mm S 2 0) w Q := by
  have him := List.mem_of_getElem? hp
  obtain ⟨hb, i1, i2', i3, -⟩ := in_row hS him
  have h5i := R.2.2.2.2.1.1 i i1 i2'
  have h3b := R.2.2.1.1 b hb
  have on := h5i.2.2.2.2.2.2 i3
  have hne : P 0 b ≠ P 1 i := is_ne h3b.1 h5i.1 (by decide)
  have T : ∀ z0 : Int32, z0.toInt = min (mostS S b (prevO (rr S b) p)).toInt (mm S 4 b).toInt → wb_It_goOn_30 e0 mi Q (P 1 i) (some (P 0 b)) (mm S 2 0) z0 w := fun z0 hz => by
    unfold wb_It_goOn_30
    refine ⟨h5i.1, P 0 b, rfl, h3b.1, fun i4 e4 i5 e5 i6 e6 => ?_⟩
    rw [on.1, h3b.2.2.2.1] at e4
    rw [on.1] at e5
    have ht := to_eq hz e4 e5
    have a1 : wI (sI w (P 1 i) 7 i5) (P 0 b) 1 = mm S 4 b := by rw [pI_I, if_neg (fun y => hne y.1)]; exact h3b.2.2.1
    have a2 : wI (sI w (P 1 i) 7 i5) (P 0 b) 2 = mm S 5 b := by rw [pI_I, if_neg (fun y => hne y.1)]; exact h3b.2.2.2.1
    have a3 : wI (sI w (P 1 i) 7 i5) (P 1 i) 8 = mm S 19 i := by rw [pI_I, if_neg (fun y => by simp at y)]; exact on.2.1
    rw [a1, a2, a3] at e6
    have he : i6 = expS S b i := by rw [e6]; rfl
    obtain ⟨R', F'⟩ := RC_place R hS him i6 i5
    rw [ht, he] at R' F' ⊢
    exact hQ _ R' F'
  have lk := (R.2.2.2.2.2.1 b p i hp).1
  unfold wp_It_goOn
  refine ⟨h5i.1, ?_⟩
  rw [lk]
  cases hpr : prevO (rr S b) p with
  | none =>
    refine ⟨fun z => absurd rfl z, fun _ => ⟨P 0 b, rfl, h3b.1, ?_⟩⟩
    rw [h3b.2.2.1]
    refine T _ ?_
    rw [hpr]
    show _ = min (mm S 4 b).toInt _
    omega
  | some a =>
    have ham := prev_mem hpr
    obtain ⟨-, a1, a2, a3, -⟩ := in_row hS ham
    have h5a := R.2.2.2.2.1.1 a a1 a2
    refine ⟨fun _ => ⟨P 0 b, rfl, h3b.1, P 1 a, rfl, h5a.1, C_rear R a1 a2 a3 (fun i14 e14 => T _ ?_)⟩, fun z => absurd z (by simp)⟩
    rw [e14, h3b.2.2.1, i32_min, hpr]
    rfl
end CL
