/-! CALLS OF THE CLASS: a new belt -/
theorem map_cg {P P1 : Nat → Nat} {o : Option Nat} (h : ∀ i, o = some i → P1 i = P i) : o.map P1 = o.map P := by
  cases o with
  | none => rfl
  | some i => show some (P1 i) = some (P i); rw [h i rfl]
/-- other cells beyond what there is -/
theorem RC_ext {e0 : Nat} {S : St} {w : Wd} {q : Nat} {P P1 : Nat → Nat → Nat} {LE LW : List (Nat × Ed)} (R : RC e0 S w q P LE LW) (hS : okS S) (h0 : ∀ b, b < nB S → P1 0 b = P 0 b) (h1 : ∀ i, 1 ≤ i → i ≤ nT S → P1 1 i = P 1 i) (h2 : ∀ k, k < 2 * nB S → P1 2 k = P 2 k) (h3 : ∀ s, s < nS S → P1 3 s = P 3 s) (h6 : P1 6 = P 6) (h7 : P1 7 = P 7) : RC e0 S w q P1 LE LW := by
  obtain ⟨r1, r2, r3, r4, r5, r6, r7, r8⟩ := R
  have hrow : ∀ b i, i ∈ rr S b → P1 1 i = P 1 i := fun b i hi => by
    have := in_row hS hi
    exact h1 i this.2.1 this.2.2.1
  refine ⟨?_, ⟨fun k hk => ?_, ?_, ?_⟩, ⟨fun b hb => ?_, fun b c hb hc hz => ?_⟩, ⟨fun k hk => ?_, fun j k hj hk hz => ?_⟩, ⟨fun i i1 i2' => ?_, fun i j i1 i2' j1 j2 hz => ?_⟩, fun b p i hp => ?_, fun s hs => ?_, r8⟩
  · unfold c1 at *; rw [h6]; exact r1
  · have e : lsx S P1 LE LW k = lsx S P LE LW k := by
      unfold lsx
      match k, hk with
      | 0, _ => exact List.map_congr_left (fun b hb => h0 b (List.mem_range.mp hb))
      | 1, _ => exact List.map_congr_left (fun i hi => h1 (i + 1) (by omega) (by have := List.mem_range.mp hi; omega))
      | 2, _ => exact List.map_congr_left (fun s hs => h3 s (List.mem_range.mp hs))
      | 3, _ => rfl
      | 4, _ => rfl
      | 5, _ => exact List.map_congr_left (fun i hi => h1 i (hS.2.2.2.2.2.2.1.2 i hi).1 (hS.2.2.2.2.2.2.1.2 i hi).2.1)
    rw [h6, h7, e]; exact r2.1 k hk
  · rw [h6]; exact r2.2.1
  · rw [h7]; exact r2.2.2
  · obtain ⟨q0, q1, q2, q3, q4, q5, q6, q7, q8, q9⟩ := r3.1 b hb
    rw [h0 b hb, h2 (2 * b) (by omega), h2 (2 * b + 1) (by omega), map_cg (fun i hi => hrow b i (List.mem_of_getElem? hi)), map_cg (fun i hi => hrow b i (List.mem_of_getLast? hi))]
    exact ⟨q0, q1, q2, q3, q4, q5, q6, q7, q8, q9⟩
  · rw [h0 b hb, h0 c hc] at hz; exact r3.2 b c hb hc hz
  · obtain ⟨q0, q1, q2, q3, q4⟩ := r4.1 k hk
    rw [h2 k hk]
    exact ⟨q0, q1, q2, fun c hc hz => by rw [h0 c hc]; exact q3 c hc hz, q4⟩
  · rw [h2 j hj, h2 k hk] at hz; exact r4.2 j k hj hk hz
  · obtain ⟨q0, q1, q2, q3, q4, q5, q6⟩ := r5.1 i i1 i2'
    rw [h1 i i1 i2']
    exact ⟨q0, q1, q2, q3, q4, fun b hb hz => by rw [h0 b hb]; exact q5 b hb hz, q6⟩
  · rw [h1 i i1 i2', h1 j j1 j2] at hz; exact r5.2 i j i1 i2' j1 j2 hz
  · have hi := hrow b i (List.mem_of_getElem? hp)
    obtain ⟨q1, q2⟩ := r6 b p i hp
    rw [hi, map_cg (fun j hj => hrow b j (prev_mem hj)), map_cg (fun j hj => hrow b j (List.mem_of_getElem? hj))]
    exact ⟨q1, q2⟩
  · obtain ⟨q0, q1, q2, q3, q4⟩ := r7 s hs
    rw [h3 s hs]
    exact ⟨q0, q1, fun b hb hz => by rw [h0 b hb]; exact q2 b hb hz, q3, q4⟩
def beltS (S : St) (l v : Int32) : St := uB (um (um (um (um (um S 4 (nB S) l) 5 (nB S) v) 6 (nB S) 1) 7 (2 * nB S) (-1)) 7 (2 * nB S + 1) (-1)) (nB S + 1)
theorem mm_belt (S : St) (l v : Int32) {k : Nat} (h : k ≠ 4 ∧ k ≠ 5 ∧ k ≠ 6 ∧ k ≠ 7) : mm (beltS S l v) k = mm S k := by
  unfold beltS
  rw [mm_uB, mm_um_ne _ _ _ h.2.2.2, mm_um_ne _ _ _ h.2.2.2, mm_um_ne _ _ _ h.2.2.1, mm_um_ne _ _ _ h.2.1, mm_um_ne _ _ _ h.1]
theorem mm4_belt (S : St) (l v : Int32) (b : Nat) : mm (beltS S l v) 4 b = if b = nB S then l else mm S 4 b := by
  unfold beltS
  rw [mm_uB, mm_um_ne _ _ _ (by decide), mm_um_ne _ _ _ (by decide), mm_um_ne _ _ _ (by decide), mm_um_ne _ _ _ (by decide), mm_um]
  by_cases h : b = nB S
  · rw [if_pos ⟨rfl, h⟩, if_pos h]
  · rw [if_neg (fun z => h z.2), if_neg h]
theorem mm5_belt (S : St) (l v : Int32) (b : Nat) : mm (beltS S l v) 5 b = if b = nB S then v else mm S 5 b := by
  unfold beltS
  rw [mm_uB, mm_um_ne _ _ _ (by decide), mm_um_ne _ _ _ (by decide), mm_um_ne _ _ _ (by decide), mm_um]
  by_cases h : b = nB S
  · rw [if_pos ⟨rfl, h⟩, if_pos h]
  · rw [if_neg (fun z => h z.2), if_neg h, mm_um_ne _ _ _ (by decide)]
theorem mm6_belt (S : St) (l v : Int32) (b : Nat) : mm (beltS S l v) 6 b = if b = nB S then 1 else mm S 6 b := by
  unfold beltS
  rw [mm_uB, mm_um_ne _ _ _ (by decide), mm_um_ne _ _ _ (by decide), mm_um]
  by_cases h : b = nB S
  · rw [if_pos ⟨rfl, h⟩, if_pos h]
  · rw [if_neg (fun z => h z.2), if_neg h, mm_um_ne _ _ _ (by decide), mm_um_ne _ _ _ (by decide)]
theorem mm7_belt (S : St) (l v : Int32) (k : Nat) : mm (beltS S l v) 7 k = if k = 2 * nB S ∨ k = 2 * nB S + 1 then -1 else mm S 7 k := by
  unfold beltS
  rw [mm_uB, mm_um]
  by_cases h1 : k = 2 * nB S + 1
  · rw [if_pos ⟨rfl, h1⟩, if_pos (Or.inr h1)]
  · rw [if_neg (fun z => h1 z.2), mm_um]
    by_cases h0 : k = 2 * nB S
    · rw [if_pos ⟨rfl, h0⟩, if_pos (Or.inl h0)]
    · rw [if_neg (fun z => h0 z.2), if_neg (fun z => by omega), mm_um_ne _ _ _ (by decide), mm_um_ne _ _ _ (by decide), mm_um_ne _ _ _ (by decide)]
theorem rr_belt (S : St) (l v : Int32) : rr (beltS S l v) = rr S := (rfl)
theorem nB_belt (S : St) (l v : Int32) : nB (beltS S l v) = nB S + 1 := (rfl)
/-- nothing went by ways that are not there -/
def ok9 (S : St) : Prop := ∀ k, 2 * nB S ≤ k → mm S 9 k = 0
def Pb (P : Nat → Nat → Nat) (n x y z : Nat) : Nat → Nat → Nat := fun a j => if a = 0 ∧ j = n then x else if a = 2 ∧ j = 2 * n then y else if a = 2 ∧ j = 2 * n + 1 then z else P a j
theorem newB_kp {w w' : Wd} {x y z : Nat} {no ln sp : Int32} {X : Nat → Prop} (h : newB w x y z no ln sp) (K : Kp X w w') (hx : ¬ X x) (hy : ¬ X y) (hz : ¬ X z) : newB w' x y z no ln sp := by
  obtain ⟨b0, b1, b2, b3, b4, b5, b6, b7, b8, b9, y0, y1, y2, y3, z0, z1, z2, z3⟩ := h
  unfold newB
  rw [K.I b0.1 hx, K.R b0.1 hx, K.I y0.1 hy, K.R y0.1 hy, K.I z0.1 hz, K.R z0.1 hz]
  exact ⟨K.is b0, b1, b2, b3, b4, b5, b6, b7, b8, b9, K.is y0, y1, y2, y3, K.is z0, z1, z2, z3⟩
