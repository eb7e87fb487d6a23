/-! THE CLASS HOLDS THE STATE: P 0 b, P 1 i, P 2 k, P 3 s are the cells of belts, items, ways and scanners, P 6 k and P 7 k the six lists and their rows; LE and LW the cells of edges told and waiting, with what they hold -/
def edAt (w : Wd) (a : Nat) (e : Ed) : Prop := bw_is w a 1 ∧ wI w a 0 = e.1 ∧ wI w a 1 = nI e.2.1 ∧ wI w a 2 = nI e.2.2.1 ∧ wI w a 3 = nI e.2.2.2
def c1 (S : St) (w : Wd) (q : Nat) (P : Nat → Nat → Nat) : Prop := bw_is w q 5 ∧ wI w q 6 = mm S 2 0 ∧ wI w q 7 = mm S 1 0 ∧ wI w q 8 = mm S 30 0 ∧ ∀ k, k < 6 → wR w q k = some (P 6 k)
def lsx (S : St) (P : Nat → Nat → Nat) (LE LW : List (Nat × Ed)) (k : Nat) : List Nat := match k with
  | 0 => (List.range (nB S)).map (P 0)
  | 1 => (List.range (nT S)).map (fun i => P 1 (i + 1))
  | 2 => (List.range (nS S)).map (P 3)
  | 3 => LE.map Prod.fst
  | 4 => LW.map Prod.fst
  | _ => (gos S).map (P 1)
def lmx (S : St) (k : Nat) : Nat := match k with
  | 0 => nB S
  | 1 => nT S
  | 2 => nS S
  | 3 => (eds S).length
  | 4 => wX S
  | _ => (gos S).length
def c2 (e0 : Nat) (S : St) (w : Wd) (P : Nat → Nat → Nat) (LE LW : List (Nat × Ed)) : Prop :=
  (∀ k, k < 6 → isK e0 w (P 6 k) (P 7 k) (lmx S k) (lsx S P LE LW k)) ∧ (∀ j k, j < 6 → k < 6 → j ≠ k → P 6 j ≠ P 6 k) ∧ (∀ j k, j < 6 → k < 6 → j ≠ k → 0 < lmx S j → 0 < lmx S k → P 7 j ≠ P 7 k)
def c3 (S : St) (w : Wd) (P : Nat → Nat → Nat) : Prop :=
  (∀ b, b < nB S → bw_is w (P 0 b) 0 ∧ wI w (P 0 b) 0 = nI b ∧ wI w (P 0 b) 1 = mm S 4 b ∧ wI w (P 0 b) 2 = mm S 5 b ∧ wI w (P 0 b) 3 = mm S 6 b ∧ wI w (P 0 b) 6 = nI (rr S b).length ∧
    wR w (P 0 b) 4 = (rr S b)[0]?.map (P 1) ∧ wR w (P 0 b) 5 = (rr S b).getLast?.map (P 1) ∧ wR w (P 0 b) 7 = some (P 2 (2 * b)) ∧ wR w (P 0 b) 8 = some (P 2 (2 * b + 1))) ∧ (∀ b c, b < nB S → c < nB S → P 0 b = P 0 c → b = c)
def c4 (S : St) (w : Wd) (P : Nat → Nat → Nat) : Prop :=
  (∀ k, k < 2 * nB S → bw_is w (P 2 k) 4 ∧ wI w (P 2 k) 2 = mm S 9 k ∧ (mm S 7 k = -1 → wR w (P 2 k) 0 = none) ∧ (∀ c, c < nB S → mm S 7 k = nI c → wR w (P 2 k) 0 = some (P 0 c)) ∧ (¬ mm S 7 k = -1 → wI w (P 2 k) 1 = mm S 8 k)) ∧ (∀ j k, j < 2 * nB S → k < 2 * nB S → P 2 j = P 2 k → j = k)
def c5 (S : St) (w : Wd) (P : Nat → Nat → Nat) : Prop :=
  (∀ i, 1 ≤ i → i ≤ nT S → bw_is w (P 1 i) 2 ∧ wI w (P 1 i) 0 = nI i ∧ wI w (P 1 i) 1 = mm S 16 i ∧ wI w (P 1 i) 2 = mm S 20 i ∧ wI w (P 1 i) 6 = mm S 13 i ∧ (∀ b, b < nB S → mm S 14 i = nI b → wR w (P 1 i) 3 = some (P 0 b)) ∧
    (mm S 13 i = 0 → wI w (P 1 i) 7 = mm S 15 i ∧ wI w (P 1 i) 8 = mm S 19 i ∧ wI w (P 1 i) 9 = mm S 17 i ∧ wI w (P 1 i) 10 = mm S 18 i)) ∧ (∀ i j, 1 ≤ i → i ≤ nT S → 1 ≤ j → j ≤ nT S → P 1 i = P 1 j → i = j)
def prevO (l : List Nat) (p : Nat) : Option Nat := if p = 0 then none else l[p - 1]?
def c6 (S : St) (w : Wd) (P : Nat → Nat → Nat) : Prop := ∀ b p i, (rr S b)[p]? = some i → wR w (P 1 i) 4 = (prevO (rr S b) p).map (P 1) ∧ wR w (P 1 i) 5 = (rr S b)[p + 1]?.map (P 1)
def c7 (S : St) (w : Wd) (P : Nat → Nat → Nat) : Prop := ∀ s, s < nS S → bw_is w (P 3 s) 3 ∧ wI w (P 3 s) 0 = nI s ∧ (∀ b, b < nB S → mm S 22 s = nI b → wR w (P 3 s) 1 = some (P 0 b)) ∧ wI w (P 3 s) 2 = mm S 23 s ∧ wI w (P 3 s) 3 = mm S 24 s
def c8 (S : St) (w : Wd) (LE LW : List (Nat × Ed)) : Prop := LE.map Prod.snd = eds S ∧ LW.map Prod.snd = wts S ∧ (∀ x ∈ LE, edAt w x.1 x.2) ∧ ∀ x ∈ LW, edAt w x.1 x.2
def RC (e0 : Nat) (S : St) (w : Wd) (q : Nat) (P : Nat → Nat → Nat) (LE LW : List (Nat × Ed)) : Prop := c1 S w q P ∧ c2 e0 S w P LE LW ∧ c3 S w P ∧ c4 S w P ∧ c5 S w P ∧ c6 S w P ∧ c7 S w P ∧ c8 S w LE LW
/-! each of these reads cells of one kind -/
theorem c1_kp {S : St} {w w' : Wd} {q : Nat} {P : Nat → Nat → Nat} {X : Nat → Prop} (h : c1 S w q P) (hk : Kp X w w') (hX : ∀ a, bw_is w a 5 → ¬ X a) : c1 S w' q P := by
  obtain ⟨h1, h2, h3, h4, h5⟩ := h
  have hI := hk.I h1.1 (hX q h1)
  have hR := hk.R h1.1 (hX q h1)
  exact ⟨hk.is h1, by rw [hI]; exact h2, by rw [hI]; exact h3, by rw [hI]; exact h4, fun k hk2 => by rw [hR]; exact h5 k hk2⟩
theorem c2_kp {e0 : Nat} {S : St} {w w' : Wd} {P : Nat → Nat → Nat} {LE LW : List (Nat × Ed)} {X : Nat → Prop} (h : c2 e0 S w P LE LW) (hk : Kp X w w') (hX : ∀ a, bw_is w a 7 → ¬ X a) (hX2 : ∀ a, bw_is w a 100 → ¬ X a) : c2 e0 S w' P LE LW := by
  refine ⟨fun k hk2 => ?_, h.2.1, h.2.2⟩
  have h1 := h.1 k hk2
  exact isK_kp h1 hk (hX _ h1.1) (fun z => hX2 _ (h1.2.2.2.2.2.2 z).2.1)
theorem c3_kp {S : St} {w w' : Wd} {P : Nat → Nat → Nat} {X : Nat → Prop} (h : c3 S w P) (hk : Kp X w w') (hX : ∀ a, bw_is w a 0 → ¬ X a) : c3 S w' P := by
  refine ⟨fun b hb => ?_, h.2⟩
  have h1 := h.1 b hb
  rw [hk.I h1.1.1 (hX _ h1.1), hk.R h1.1.1 (hX _ h1.1)]
  exact ⟨hk.is h1.1, h1.2⟩
theorem c4_kp {S : St} {w w' : Wd} {P : Nat → Nat → Nat} {X : Nat → Prop} (h : c4 S w P) (hk : Kp X w w') (hX : ∀ a, bw_is w a 4 → ¬ X a) : c4 S w' P := by
  refine ⟨fun b hb => ?_, h.2⟩
  have h1 := h.1 b hb
  rw [hk.I h1.1.1 (hX _ h1.1), hk.R h1.1.1 (hX _ h1.1)]
  exact ⟨hk.is h1.1, h1.2⟩
theorem c5_kp {S : St} {w w' : Wd} {P : Nat → Nat → Nat} {X : Nat → Prop} (h : c5 S w P) (hk : Kp X w w') (hX : ∀ a, bw_is w a 2 → ¬ X a) : c5 S w' P := by
  refine ⟨fun i hi1 hi2 => ?_, h.2⟩
  have h1 := h.1 i hi1 hi2
  rw [hk.I h1.1.1 (hX _ h1.1), hk.R h1.1.1 (hX _ h1.1)]
  exact ⟨hk.is h1.1, h1.2⟩
theorem c6_kp {S : St} {w w' : Wd} {P : Nat → Nat → Nat} {X : Nat → Prop} (h : c6 S w P) (h5 : c5 S w P) (hS : okS S) (hk : Kp X w w') (hX : ∀ a, bw_is w a 2 → ¬ X a) : c6 S w' P := by
  intro b p i hp
  have hi := hS.2.2.1 b i (List.mem_of_getElem? hp)
  have h1 := (h5.1 i hi.1 hi.2.1).1
  rw [hk.R h1.1 (hX _ h1)]
  exact h b p i hp
theorem c7_kp {S : St} {w w' : Wd} {P : Nat → Nat → Nat} {X : Nat → Prop} (h : c7 S w P) (hk : Kp X w w') (hX : ∀ a, bw_is w a 3 → ¬ X a) : c7 S w' P := by
  intro s hs
  have h1 := h s hs
  rw [hk.I h1.1.1 (hX _ h1.1), hk.R h1.1.1 (hX _ h1.1)]
  exact ⟨hk.is h1.1, h1.2⟩
theorem edAt_kp {w w' : Wd} {a : Nat} {e : Ed} {X : Nat → Prop} (h : edAt w a e) (hk : Kp X w w') (hX : ∀ a, bw_is w a 1 → ¬ X a) : edAt w' a e := by
  obtain ⟨h1, h2⟩ := h
  rw [← hk.I h1.1 (hX a h1)] at h2
  exact ⟨hk.is h1, h2⟩
theorem c8_kp {S : St} {w w' : Wd} {LE LW : List (Nat × Ed)} {X : Nat → Prop} (h : c8 S w LE LW) (hk : Kp X w w') (hX : ∀ a, bw_is w a 1 → ¬ X a) : c8 S w' LE LW :=
  ⟨h.1, h.2.1, fun x hx => edAt_kp (h.2.2.1 x hx) hk hX, fun x hx => edAt_kp (h.2.2.2 x hx) hk hX⟩
/-- all at once, where what changed is no cell that the class holds -/
theorem RC_kp {e0 : Nat} {S : St} {w w' : Wd} {q : Nat} {P : Nat → Nat → Nat} {LE LW : List (Nat × Ed)} {X : Nat → Prop} (h : RC e0 S w q P LE LW) (hS : okS S) (hk : Kp X w w') (hX : ∀ a ci, bw_is w a ci → X a → kM ci) : RC e0 S w' q P LE LW := by
  have hx : ∀ ci, ¬ kM ci → ∀ a, bw_is w a ci → ¬ X a := fun ci hc a ha hxa => hc (hX a ci ha hxa)
  obtain ⟨h1, h2, h3, h4, h5, h6, h7, h8⟩ := h
  have n : ∀ ci, ci < 6 ∨ ci = 7 ∨ ci = 100 → ¬ kM ci := fun ci hci => by unfold kM; omega
  exact ⟨c1_kp h1 hk (hx 5 (n 5 (by decide))), c2_kp h2 hk (hx 7 (n 7 (by decide))) (hx 100 (n 100 (by decide))), c3_kp h3 hk (hx 0 (n 0 (by decide))), c4_kp h4 hk (hx 4 (n 4 (by decide))), c5_kp h5 hk (hx 2 (n 2 (by decide))), c6_kp h6 h5 hS hk (hx 2 (n 2 (by decide))), c7_kp h7 hk (hx 3 (n 3 (by decide))), c8_kp h8 hk (hx 1 (n 1 (by decide)))⟩
