/-! CALLS OF THE CLASS: slip, gap, known, count -/
def cntS (S : St) : Nat → Nat
  | 0 => 0
  | n + 1 => cntS S n + (rr S n).length
section CL
variable {e0 mi q : Nat} {P : Nat → Nat → Nat} {S : St} {w : Wd} {LE LW : List (Nat × Ed)}
theorem RC_slip {b i : Nat} (R : RC e0 S w q P LE LW) (hS : okS S) (him : i ∈ rr S b) (t : Int32) : RC e0 (um S 15 i t) (sI w (P 1 i) 7 t) q P LE LW ∧ FrC w (sI w (P 1 i) 7 t) := by
  obtain ⟨-, i1, i2', i3, -⟩ := in_row hS him
  obtain ⟨r1, r2, r3, r4, r5, r6, r7, r8⟩ := R
  have h5i := (r5.1 i i1 i2').1
  have K : Kp (fun x => x = P 1 i) w (sI w (P 1 i) 7 t) := (Kp.rfl (X := fun x => x = P 1 i)).sI (fun _ => rfl)
  have kN : ∀ ci, ci ≠ 2 → ∀ a, bw_is w a ci → ¬ a = P 1 i := fun ci hci a ha => is_ne ha h5i hci
  have em : ∀ k, k ≠ 15 → mm (um S 15 i t) k = mm S k := fun k h1 => mm_um_ne _ _ _ h1
  have e3 := c3_kp r3 K (kN 0 (by decide))
  refine ⟨⟨c1_eq (c1_kp r1 K (kN 5 (by decide))) (em 1 (by decide)) (em 2 (by decide)) (em 30 (by decide)), c2_eq (c2_kp r2 K (kN 7 (by decide)) (kN 100 (by decide))) (fun _ => rfl) (fun _ => rfl), ?_, c4_eq (c4_kp r4 K (kN 4 (by decide))) rfl (em 7 (by decide)) (em 8 (by decide)) (em 9 (by decide)), ⟨fun j j1 j2 => ?_, r5.2⟩, fun c k j hk => r6 c k j hk, c7_eq (c7_kp r7 K (kN 3 (by decide))) rfl rfl (em 22 (by decide)) (em 23 (by decide)) (em 24 (by decide)), c8_eq (c8_kp r8 K (kN 1 (by decide))) rfl rfl⟩, K.frC (fun a ha z => by rw [z, h5i.2]; unfold kM; omega)⟩
  · unfold c3 at *
    rw [em 4 (by decide), em 5 (by decide), em 6 (by decide)]; exact e3
  · rw [em 16 (by decide), em 20 (by decide), em 13 (by decide), em 14 (by decide), em 17 (by decide), em 18 (by decide), em 19 (by decide)]
    obtain ⟨q0, q1, q2, q3, q4, q5, q6⟩ := r5.1 j j1 j2
    by_cases hji : j = i
    · subst hji
      refine ⟨q0, ?_, ?_, ?_, ?_, q5, fun z => ⟨?_, ?_, ?_, ?_⟩⟩
      · rw [pI_I, if_neg (fun y => by simp at y)]; exact q1
      · rw [pI_I, if_neg (fun y => by simp at y)]; exact q2
      · rw [pI_I, if_neg (fun y => by simp at y)]; exact q3
      · rw [pI_I, if_neg (fun y => by simp at y)]; exact q4
      · rw [pI_I, if_pos ⟨rfl, rfl⟩, mm_um_at]
      · rw [pI_I, if_neg (fun y => by simp at y)]; exact (q6 z).2.1
      · rw [pI_I, if_neg (fun y => by simp at y)]; exact (q6 z).2.2.1
      · rw [pI_I, if_neg (fun y => by simp at y)]; exact (q6 z).2.2.2
    · have hne : P 1 j ≠ P 1 i := fun z => hji (r5.2 j i j1 j2 i1 i2' z)
      have ee : ∀ s, wI (sI w (P 1 i) 7 t) (P 1 j) s = wI w (P 1 j) s := fun s => by rw [pI_I, if_neg (fun y => hne y.1)]
      have x15 : mm (um S 15 i t) 15 j = mm S 15 j := by rw [mm_um, if_neg (fun z => hji z.2)]
      rw [ee, ee, ee, ee, ee, ee, ee, ee, x15]
      exact ⟨q0, q1, q2, q3, q4, q5, q6⟩
/-- the item at the place p of the row b may slip back so far -/
def slipOk (S : St) (b p i : Nat) (by' : Int32) : Prop := ∀ j, (rr S b)[p + 1]? = some j → mm S 2 0 ≤ (rearS S i - by') - mm S 15 j
theorem B_slip {x1 x2 : Int32} {nc ns : Nat} {Q : Int32 → Wd → Prop} {X : String → Wd → Prop} (R : RC e0 S w q P LE LW) (hS : okS S) (hc : 4 ≤ nc) (hs : 24 ≤ ns) (h1 : ¬ (∃ i, 1 ≤ i ∧ i ≤ nT S ∧ x1 = nI i) → X "java/util/NoSuchElementException" w) (h2 : (∃ i, 1 ≤ i ∧ i ≤ nT S ∧ x1 = nI i) → ¬ rng x2 1 1000 → X "java/lang/IllegalArgumentException" w)
    (h3 : ∀ i, 1 ≤ i → i ≤ nT S → x1 = nI i → rng x2 1 1000 → ¬ mm S 13 i = 0 → X "java/lang/IllegalStateException" w)
    (h4 : ∀ i b p, (rr S b)[p]? = some i → x1 = nI i → rng x2 1 1000 → ¬ (x2 ≤ mm S 15 i ∧ slipOk S b p i x2) → X "java/lang/IllegalStateException" w)
    (h0 : ∀ i b p, (rr S b)[p]? = some i → x1 = nI i → rng x2 1 1000 → x2 ≤ mm S 15 i → slipOk S b p i x2 → ∀ w', RC e0 (um S 15 i (mm S 15 i - x2)) w' q P LE LW → FrC w w' → Q (mm S 15 i - x2) w') : wp_Br_slip e0 mi q x1 x2 w nc ns Q X := by
  unfold wp_Br_slip
  refine ⟨R.1.1, 1, 6, by omega, by omega, C_fi R hS (fun z => ⟨Nat.le_refl _, Nat.le_refl _, h1 z⟩) (fun i i1 i2' hx => ⟨1, 6, by omega, by omega, ck_ok (fun z => ⟨Nat.le_refl _, Nat.le_refl _, h2 ⟨i, i1, i2', hx⟩ z⟩) (fun z => ⟨1, 6, by omega, by omega, C_on R i1 i2' (fun z2 => ⟨Nat.le_refl _, Nat.le_refl _, h3 i i1 i2' hx z z2⟩) (fun z2 => ⟨P 1 i, rfl, (R.2.2.2.2.1.1 i i1 i2').1, ?_⟩)⟩)⟩)⟩
  obtain ⟨b, p, hp⟩ := on_row hS i1 i2' z2
  have h5 := R.2.2.2.2.1.1 i i1 i2'
  have v7 := (h5.2.2.2.2.2.2 z2).1
  have lk := (R.2.2.2.2.2.1 b p i hp).2
  obtain ⟨R', F'⟩ := RC_slip R hS (List.mem_of_getElem? hp) (mm S 15 i - x2)
  have T : ∀ (r26 : Option Nat) (nc' ns' : Nat), x2 ≤ mm S 15 i → slipOk S b p i x2 → wb_Br_slip_76 e0 mi Q X q x1 x2 (some (P 1 i)) r26 w nc' ns' := fun r26 nc' ns' hle hok => by
    unfold wb_Br_slip_76
    refine ⟨P 1 i, rfl, h5.1, ?_⟩
    rw [v7, pI_I, if_pos ⟨rfl, rfl⟩]
    exact h0 i b p hp hx z hle hok _ R' F'
  rw [v7]
  refine ⟨fun hle r26 e26 => ?_, fun hle => ⟨by omega, by omega, h4 i b p hp hx z (fun y => hle y.1)⟩⟩
  rw [lk] at e26
  cases hn : (rr S b)[p + 1]? with
  | none =>
    rw [hn] at e26
    subst e26
    exact ⟨fun _ => T _ _ _ hle (fun j hj => by rw [hn] at hj; cases hj), fun y => absurd rfl y⟩
  | some j =>
    rw [hn] at e26
    subst e26
    have hj := in_row hS (List.mem_of_getElem? hn)
    have h5j := R.2.2.2.2.1.1 j hj.2.1 hj.2.2.1
    refine ⟨fun y => absurd y (by simp), fun _ => C_rear R i1 i2' z2 ⟨P 1 j, rfl, h5j.1, R.1.1, ?_⟩⟩
    rw [R.1.2.1, (h5j.2.2.2.2.2.2 hj.2.2.2.1).1]
    refine ⟨fun y => T _ _ _ hle (fun k hk => ?_), fun y => ⟨by omega, by omega, h4 i b p hp hx z (fun u => y (u.2 j hn))⟩⟩
    rw [hn] at hk
    cases hk
    exact y
theorem C_itemsOn : ∀ (n k : Nat) {Q : Int32 → Wd → Prop}, RC e0 S w q P LE LW → okS S → k + n = nB S → Q (nI (cntS S (nB S))) w → wb_Br_itemsOnBelts_4 e0 mi Q (n + 1) q (nI (cntS S k)) (nI k) w
  | 0, k, Q, R, hS, hk, hQ => by
    have hb8 := hS.1.1
    have : k = nB S := by omega
    subst this
    unfold wb_Br_itemsOnBelts_4
    refine ⟨R.1.1, C_size R (k := 0) (by decide) ?_⟩
    rw [lsx0]
    exact ⟨fun _ => hQ, fun z => absurd (nI_le (Nat.le_refl _) (by omega)) z⟩
  | n + 1, k, Q, R, hS, hk, hQ => by
    have hb8 := hS.1.1
    have hkB : k < nB S := by omega
    have h3 := R.2.2.1.1 k hkB
    unfold wb_Br_itemsOnBelts_4
    refine ⟨R.1.1, C_size R (k := 0) (by decide) ?_⟩
    rw [lsx0]
    refine ⟨fun z => absurd z (nI_ge hkB (by omega)), fun _ => ⟨R.1.1, P 6 0, R.1.2.2.2.2 0 (by decide), (R.2.1.1 0 (by decide)).1, C_beltAt R hkB ⟨fun a ha => (by cases ha; exact h3.1), P 0 k, rfl, h3.1, fun i26 e26 i27 e27 => ?_⟩⟩⟩
    rw [e26, e27, h3.2.2.2.2.2.1, nI_add, nI_1]
    exact C_itemsOn n (k + 1) R hS (by omega) hQ
theorem B_count {x1 : Int32} {Q : Int32 → Wd → Prop} (R : RC e0 S w q P LE LW) (hS : okS S) (a0 : x1 = 0 → Q (nI (nB S)) w) (a1 : x1 = 1 → Q (nI (nT S)) w) (a2 : x1 = 2 → Q (nI (cntS S (nB S))) w) (a3 : x1 = 3 → Q (nI (gos S).length) w) (a4 : x1 = 4 → Q (nI (eds S).length) w) (a5 : x1 = 5 → Q (mm S 1 0) w) (a6 : x1 = 6 → Q (nI (nS S)) w) (a7 : x1 = 7 → Q (nI (wts S).length) w) (a8 : (x1.toInt < 0 ∨ 7 < x1.toInt) → Q (-1) w) : wp_Br_count e0 mi q x1 w Q := by
  unfold wp_Br_count wp_Br_itemsOnBelts
  refine ⟨fun z => ⟨R.1.1, C_size R (k := 0) (by decide) ?_⟩, fun z => ⟨R.1.1, C_size R (k := 1) (by decide) ?_⟩, fun z => ⟨R.1.1, nB S + 1, C_itemsOn (nB S) 0 R hS (by omega) (a2 z)⟩, fun z => ⟨R.1.1, C_size R (k := 5) (by decide) ?_⟩, fun z => ⟨R.1.1, C_size R (k := 3) (by decide) ?_⟩, fun z => ⟨R.1.1, ?_⟩, fun z => ⟨R.1.1, C_size R (k := 2) (by decide) ?_⟩, fun z => ⟨R.1.1, C_size R (k := 4) (by decide) ?_⟩, a8⟩
  · rw [lsx0]; exact a0 z
  · rw [lsx1]; exact a1 z
  · rw [show (lsx S P LE LW 5).length = (gos S).length by show ((gos S).map (P 1)).length = _; simp]; exact a3 z
  · rw [show (lsx S P LE LW 3).length = (eds S).length from (LE_len R).1]; exact a4 z
  · rw [R.1.2.2.1]; exact a5 z
  · rw [show (lsx S P LE LW 2).length = nS S by show ((List.range (nS S)).map (P 3)).length = _; simp]; exact a6 z
  · rw [show (lsx S P LE LW 4).length = (wts S).length from (LE_len R).2]; exact a7 z
end CL
