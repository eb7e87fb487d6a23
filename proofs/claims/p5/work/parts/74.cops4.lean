/-! CALLS OF THE CLASS: known, gap, join, clean -/
def ind (c : Prop) (h : Decidable c) : Nat := match h with
  | .isTrue _ => 1
  | .isFalse _ => 0
/-- how many ways of the belts below n lead to the belt t -/
def wayN (S : St) (t : Nat) : Nat → Nat
  | 0 => 0
  | n + 1 => wayN S t n + (if mm S 7 (2 * n) = nI t then 1 else 0) + (if mm S 7 (2 * n + 1) = nI t then 1 else 0)
/-- all items of a belt are taken, from the front -/
def cleanN (S : St) (b : Nat) : Nat → St
  | 0 => S
  | n + 1 => match rr S b with
    | [] => S
    | i :: _ => cleanN (um (ur S b ((rr S b).eraseIdx 0)) 13 i 2) b n
section CL
variable {e0 mi q : Nat} {P : Nat → Nat → Nat} {S : St} {w : Wd} {LE LW : List (Nat × Ed)}
theorem C_next {b y : Nat} {Q : Int32 → Wd → Prop} (R : RC e0 S w q P LE LW) (hS : okS S) (hb : b < nB S) (hy : y < 2) (hQ : Q (mm S 7 (2 * b + y)) w) : wp_Wy_nextNumber e0 mi (P 2 (2 * b + y)) w Q := by
  have h4 := R.2.2.2.1.1 (2 * b + y) (by omega)
  unfold wp_Wy_nextNumber wb_Wy_nextNumber_18
  refine ⟨h4.1, ?_⟩
  rcases hS.2.2.2.2.2.1 b hb y hy with h | ⟨c, c1', c2', c3'⟩
  · rw [h4.2.2.1 h]
    rw [h] at hQ
    exact ⟨fun z => absurd rfl z, fun _ => hQ⟩
  · rw [h4.2.2.2.1 c c2' c3']
    have h3 := R.2.2.1.1 c c2'
    refine ⟨fun _ => ⟨P 0 c, rfl, h3.1, ?_⟩, fun z => absurd z (by simp)⟩
    rw [h3.2.1, ← c3']; exact hQ
theorem B_known {x1 x2 : Int32} {nc ns : Nat} {Q : Int32 → Wd → Prop} {X : String → Wd → Prop} (R : RC e0 S w q P LE LW) (hS : okS S) (hc : 2 ≤ nc) (hs : 12 ≤ ns) (h1 : ¬ (∃ b, b < nB S ∧ x1 = nI b) → X "java/util/NoSuchElementException" w)
    (h2 : (∃ b, b < nB S ∧ x1 = nI b) → (x2.toInt < 0 ∨ 8 < x2.toInt) → X "java/lang/IllegalArgumentException" w)
    (h0 : ∀ b, b < nB S → x1 = nI b → (x2 = 0 → Q (mm S 4 b) w) ∧ (x2 = 1 → Q (mm S 5 b) w) ∧ (x2 = 2 → Q (if mm S 6 b = 0 then 0 else 1) w) ∧ (x2 = 3 → Q (nI (rr S b).length) w) ∧ (x2 = 4 → Q (enc ((rr S b)[0]?)) w) ∧ (x2 = 5 → Q (mm S 7 (2 * b)) w) ∧ (x2 = 6 → Q (mm S 7 (2 * b + 1)) w) ∧ (x2 = 7 → Q (mm S 9 (2 * b)) w) ∧ (x2 = 8 → Q (mm S 9 (2 * b + 1)) w)) : wp_Br_known e0 mi q x1 x2 w nc ns Q X := by
  unfold wp_Br_known wb_Br_known_78 wb_Br_known_102
  refine ⟨R.1.1, 1, 6, by omega, by omega, C_fb R hS (fun z => ⟨Nat.le_refl _, Nat.le_refl _, h1 z⟩) (fun b hb hx => ?_)⟩
  obtain ⟨q0, q1, q2, q3, q4, q5, q6, q7, q8, q9⟩ := R.2.2.1.1 b hb
  obtain ⟨a0, a1, a2, a3, a4, a5, a6, a7, a8⟩ := h0 b hb hx
  refine ⟨fun z => ⟨P 0 b, rfl, q0, ?_⟩, fun z => ⟨P 0 b, rfl, q0, ?_⟩, fun z => ⟨P 0 b, rfl, q0, fun y => ?_, fun y => ?_⟩, fun z => ⟨P 0 b, rfl, q0, ?_⟩, fun z => ⟨P 0 b, rfl, q0, ?_⟩, fun z => ⟨P 0 b, rfl, q0, C_wayN R hb (y := 0) (by decide) rfl ⟨_, rfl, (R.2.2.2.1.1 (2 * b + 0) (by omega)).1, C_next R hS hb (y := 0) (by decide) (a5 z)⟩⟩, fun z => ⟨P 0 b, rfl, q0, C_wayN R hb (y := 1) (by decide) rfl ⟨_, rfl, (R.2.2.2.1.1 (2 * b + 1) (by omega)).1, C_next R hS hb (y := 1) (by decide) (a6 z)⟩⟩, fun z => ⟨P 0 b, rfl, q0, C_wayN R hb (y := 0) (by decide) rfl ⟨_, rfl, (R.2.2.2.1.1 (2 * b + 0) (by omega)).1, ?_⟩⟩, fun z => ⟨P 0 b, rfl, q0, C_wayN R hb (y := 1) (by decide) rfl ⟨_, rfl, (R.2.2.2.1.1 (2 * b + 1) (by omega)).1, ?_⟩⟩, fun z => ⟨by omega, by omega, h2 ⟨b, hb, hx⟩ z⟩⟩
  · rw [q2]; exact a0 z
  · rw [q3]; exact a1 z
  · have := a2 z; rw [q4] at y; rw [if_pos y] at this; exact this
  · have := a2 z; rw [q4] at y; rw [if_neg y] at this; exact this
  · rw [q5]; exact a3 z
  · rw [q6]
    have := a4 z
    cases hf : (rr S b)[0]? with
    | none =>
      rw [hf] at this
      exact ⟨fun y => absurd rfl y, fun _ => this⟩
    | some i =>
      rw [hf] at this
      have hi := in_row hS (List.mem_of_getElem? hf)
      have h5 := R.2.2.2.2.1.1 i hi.2.1 hi.2.2.1
      refine ⟨fun _ => ⟨P 1 i, rfl, h5.1, ?_⟩, fun y => absurd y (by simp)⟩
      rw [h5.2.1]; exact this
  · rw [(R.2.2.2.1.1 (2 * b + 0) (by omega)).2.1]; exact a7 z
  · rw [(R.2.2.2.1.1 (2 * b + 1) (by omega)).2.1]; exact a8 z
theorem B_gap {x1 x2 : Int32} {nc ns : Nat} {Q : Int32 → Wd → Prop} {X : String → Wd → Prop} (R : RC e0 S w q P LE LW) (hS : okS S) (hc : 5 ≤ nc) (hs : 30 ≤ ns) (h1 : ¬ ((∃ i, 1 ≤ i ∧ i ≤ nT S ∧ x1 = nI i) ∧ (∃ i, 1 ≤ i ∧ i ≤ nT S ∧ x2 = nI i)) → X "java/util/NoSuchElementException" w)
    (h2 : ∀ i j, 1 ≤ i → i ≤ nT S → x1 = nI i → 1 ≤ j → j ≤ nT S → x2 = nI j → ¬ (mm S 13 i = 0 ∧ mm S 13 j = 0 ∧ ¬ i = j ∧ mm S 14 i = mm S 14 j) → X "java/lang/IllegalStateException" w)
    (h0 : ∀ i j, 1 ≤ i → i ≤ nT S → x1 = nI i → 1 ≤ j → j ≤ nT S → x2 = nI j → mm S 13 i = 0 → mm S 13 j = 0 → ¬ i = j → mm S 14 i = mm S 14 j → Q (if mm S 15 i ≤ mm S 15 j then rearS S j - mm S 15 i else rearS S i - mm S 15 j) w) : wp_Br_gap e0 mi q x1 x2 w nc ns Q X := by
  unfold wp_Br_gap wb_Br_gap_40 wb_Br_gap_85
  refine ⟨R.1.1, 1, 6, by omega, by omega, C_fi R hS (fun z => ⟨Nat.le_refl _, Nat.le_refl _, h1 (fun y => z y.1)⟩) (fun i i1 i2' hx => ⟨R.1.1, 1, 6, by omega, by omega, C_fi R hS (fun z => ⟨Nat.le_refl _, Nat.le_refl _, h1 (fun y => z y.2)⟩) (fun j j1 j2 hy => ⟨1, 6, by omega, by omega, C_on R i1 i2' (fun z => ⟨Nat.le_refl _, Nat.le_refl _, h2 i j i1 i2' hx j1 j2 hy (fun u => z u.1)⟩) (fun z => ⟨1, 6, by omega, by omega, C_on R j1 j2 (fun z2 => ⟨Nat.le_refl _, Nat.le_refl _, h2 i j i1 i2' hx j1 j2 hy (fun u => z2 u.2.1)⟩) (fun z2 => ?_)⟩)⟩)⟩)⟩
  have h5i := R.2.2.2.2.1.1 i i1 i2'
  have h5j := R.2.2.2.2.1.1 j j1 j2
  obtain ⟨bi, bi1, bi2, -⟩ := hS.2.2.2.2.1 i i1 i2'
  obtain ⟨bj, bj1, bj2, -⟩ := hS.2.2.2.2.1 j j1 j2
  have wi := h5i.2.2.2.2.2.1 bi bi1 bi2
  have wj := h5j.2.2.2.2.2.1 bj bj1 bj2
  have hb8 := hS.1.1
  have kb : (some (P 0 bi) = some (P 0 bj)) ↔ mm S 14 i = mm S 14 j := by
    rw [bi2, bj2]
    constructor
    · intro u; rw [R.2.2.1.2 bi bj bi1 bj1 (Option.some.inj u)]
    · intro u; rw [(nI_eq (by omega) (by omega)).mp u]
  have ki : (some (P 1 i) = some (P 1 j)) ↔ i = j := ⟨fun u => R.2.2.2.2.1.2 i j i1 i2' j1 j2 (Option.some.inj u), fun u => by rw [u]⟩
  refine ⟨P 1 i, rfl, h5i.1, P 1 j, rfl, h5j.1, ?_⟩
  rw [wi, wj, (h5i.2.2.2.2.2.2 z).1, (h5j.2.2.2.2.2.2 z2).1]
  refine ⟨fun u => ⟨by omega, by omega, h2 i j i1 i2' hx j1 j2 hy (fun v => u (kb.mpr v.2.2.2))⟩, fun u => ⟨fun v => ⟨fun t => ?_, fun t => ?_⟩, fun v => ⟨by omega, by omega, h2 i j i1 i2' hx j1 j2 hy (fun t => t.2.2.1 (ki.mp v))⟩⟩⟩
  · have hq := h0 i j i1 i2' hx j1 j2 hy z z2 (fun t => v (ki.mpr t)) (kb.mp u)
    rw [if_pos t] at hq
    refine C_rear R j1 j2 z2 ⟨h5i.1, ?_⟩
    rw [(h5i.2.2.2.2.2.2 z).1]; exact hq
  · have hq := h0 i j i1 i2' hx j1 j2 hy z z2 (fun t => v (ki.mpr t)) (kb.mp u)
    rw [if_neg t] at hq
    refine C_rear R i1 i2' z ⟨h5j.1, ?_⟩
    rw [(h5j.2.2.2.2.2.2 z2).1]; exact hq
theorem C_clean {b : Nat} {x1 : Int32} {w0 : Wd} {N nc ns : Nat} {Q : Int32 → Wd → Prop} {X : String → Wd → Prop} : ∀ (n k : Nat) (S : St) (w : Wd), k + n = N → N ≤ 60 → (rr S b).length = n → okS S → b < nB S → RC e0 S w q P LE LW → FrC w0 w → (∀ w', RC e0 (cleanN S b n) w' q P LE LW → FrC w0 w' → Q (nI N) w') → wb_Br_clean_31 e0 mi Q X (n + 1) q x1 (some (P 0 b)) (nI N) (nI k) w nc ns
  | 0, k, S, w, hk, hN, hl, hS, hb, R, F, hQ => by
    have : k = N := by omega
    subst this
    unfold wb_Br_clean_31 wb_Br_clean_58
    exact ⟨fun _ => hQ w R F, fun z => absurd (nI_le (Nat.le_refl _) (by omega)) z⟩
  | n + 1, k, S, w, hk, hN, hl, hS, hb, R, F, hQ => by
    have h3 := R.2.2.1.1 b hb
    cases hr : rr S b with
    | nil => rw [hr] at hl; simp at hl
    | cons i t =>
      have hp : (rr S b)[0]? = some i := by rw [hr]; rfl
      have hi := in_row hS (List.mem_of_getElem? hp)
      have h5 := R.2.2.2.2.1.1 i hi.2.1 hi.2.2.1
      unfold wb_Br_clean_31
      refine ⟨fun z => absurd z (nI_ge (by omega) (by omega)), fun _ => ⟨P 0 b, rfl, h3.1, ?_⟩⟩
      rw [h3.2.2.2.2.2.2.1, hp]
      refine ⟨fun z => absurd z (by simp), fun _ => ⟨P 1 i, rfl, h5.1, C_leave R hS hp (by decide) (fun w8 R8 F8 _ i14 e14 => ?_)⟩⟩
      rw [e14, nI_1]
      refine C_clean n (k + 1) (um (ur S b ((rr S b).eraseIdx 0)) 13 i 2) w8 (by omega) hN ?_ (ok_leave hS hp (by decide)) hb R8 (F.trans F8) (fun w' R' F' => hQ w' ?_ F')
      · rw [rr_um, rr_ur, if_pos rfl, hr]
        rw [hr] at hl
        simp at hl ⊢
        exact hl
      · have e : cleanN S b (n + 1) = cleanN (um (ur S b ((rr S b).eraseIdx 0)) 13 i 2) b n := by
          conv => lhs; unfold cleanN
          rw [hr]
        rw [e]; exact R'
theorem B_clean {x1 : Int32} {nc ns : Nat} {Q : Int32 → Wd → Prop} {X : String → Wd → Prop} (R : RC e0 S w q P LE LW) (hS : okS S) (hc : 2 ≤ nc) (hs : 12 ≤ ns) (h1 : ¬ (∃ b, b < nB S ∧ x1 = nI b) → X "java/util/NoSuchElementException" w) (h2 : ∀ b, b < nB S → x1 = nI b → ¬ mm S 6 b = 0 → X "java/lang/IllegalStateException" w)
    (h0 : ∀ b, b < nB S → x1 = nI b → mm S 6 b = 0 → ∀ w', RC e0 (cleanN S b (rr S b).length) w' q P LE LW → FrC w w' → Q (nI (rr S b).length) w') : wp_Br_clean e0 mi q x1 w nc ns Q X := by
  unfold wp_Br_clean
  refine ⟨R.1.1, 1, 6, by omega, by omega, C_fb R hS (fun z => ⟨Nat.le_refl _, Nat.le_refl _, h1 z⟩) (fun b hb hx => ⟨P 0 b, rfl, (R.2.2.1.1 b hb).1, ?_⟩)⟩
  have h3 := R.2.2.1.1 b hb
  have hlen := (okS_R hS b (by have := hS.1.1; omega)).1
  rw [h3.2.2.2.2.1]
  refine ⟨fun z i12 e12 => ⟨(rr S b).length + 1, ?_⟩, fun z => ⟨by omega, by omega, h2 b hb hx z⟩⟩
  rw [e12, h3.2.2.2.2.2.1]
  exact C_clean (w0 := w) (rr S b).length 0 S w (by omega) hlen rfl hS hb R FrC.rfl (fun w' R' F' => h0 b hb hx z w' R' F')
end CL
