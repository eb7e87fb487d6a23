section
/-! THE CLASS HOLDS THE STATE: P 0 b, P 1 i, P 2 k, P 3 s are the cells of belts, items, ways and scanners, P 6 k and P 7 k the six lists and their rows; LE and LW the cells of edges told and waiting, with what they hold -/
def edAt (w : Wd) (a : Nat) (e : Ed) : Prop := bw_is w a 1 ∧ wI w a 0 = e.1 ∧ wI w a 1 = nI e.2.1 ∧ wI w a 2 = nI e.2.2.1 ∧ wI w a 3 = nI e.2.2.2
def c1 (S : St) (w : Wd) (q : Nat) (P : Nat → Nat → Nat) : Prop := bw_is w q 5 ∧ wI w q 6 = mm S 2 0 ∧ wI w q 7 = mm S 1 0 ∧ wI w q 8 = mm S 30 0 ∧ ∀ k, k < 6 → wR w q k = some (P 6 k)
def lsx (S : St) (P : Nat → Nat → Nat) (LE LW : List (Nat × Ed)) (k : Nat) : List Nat := match k with
  | 0 => (List.range (nB S)).map (P 0)
  | 1 => (List.range (nT S)).map (fun i => P 1 (i + 1))
  | 2 => (List.range (nS S)).map (P 3)
  | 3 => LE.map Prod.fst
  | 4 => LW.map Prod.fst
  | _ => (gos S).map (P 1)
def lmx (S : St) (k : Nat) : Nat := match k with
  | 0 => nB S
  | 1 => nT S
  | 2 => nS S
  | 3 => (eds S).length
  | 4 => wX S
  | _ => (gos S).length
def c2 (e0 : Nat) (S : St) (w : Wd) (P : Nat → Nat → Nat) (LE LW : List (Nat × Ed)) : Prop :=
  (∀ k, k < 6 → isK e0 w (P 6 k) (P 7 k) (lmx S k) (lsx S P LE LW k)) ∧ (∀ j k, j < 6 → k < 6 → j ≠ k → P 6 j ≠ P 6 k) ∧ (∀ j k, j < 6 → k < 6 → j ≠ k → 0 < lmx S j → 0 < lmx S k → P 7 j ≠ P 7 k)
def c3 (S : St) (w : Wd) (P : Nat → Nat → Nat) : Prop :=
  (∀ b, b < nB S → bw_is w (P 0 b) 0 ∧ wI w (P 0 b) 0 = nI b ∧ wI w (P 0 b) 1 = mm S 4 b ∧ wI w (P 0 b) 2 = mm S 5 b ∧ wI w (P 0 b) 3 = mm S 6 b ∧ wI w (P 0 b) 6 = nI (rr S b).length ∧
    wR w (P 0 b) 4 = (rr S b)[0]?.map (P 1) ∧ wR w (P 0 b) 5 = (rr S b).getLast?.map (P 1) ∧ wR w (P 0 b) 7 = some (P 2 (2 * b)) ∧ wR w (P 0 b) 8 = some (P 2 (2 * b + 1))) ∧ (∀ b c, b < nB S → c < nB S → P 0 b = P 0 c → b = c)
def c4 (S : St) (w : Wd) (P : Nat → Nat → Nat) : Prop :=
  (∀ k, k < 2 * nB S → bw_is w (P 2 k) 4 ∧ wI w (P 2 k) 2 = mm S 9 k ∧ (mm S 7 k = -1 → wR w (P 2 k) 0 = none) ∧ (∀ c, c < nB S → mm S 7 k = nI c → wR w (P 2 k) 0 = some (P 0 c)) ∧ (¬ mm S 7 k = -1 → wI w (P 2 k) 1 = mm S 8 k)) ∧ (∀ j k, j < 2 * nB S → k < 2 * nB S → P 2 j = P 2 k → j = k)
def c5 (S : St) (w : Wd) (P : Nat → Nat → Nat) : Prop :=
  (∀ i, 1 ≤ i → i ≤ nT S → bw_is w (P 1 i) 2 ∧ wI w (P 1 i) 0 = nI i ∧ wI w (P 1 i) 1 = mm S 16 i ∧ wI w (P 1 i) 2 = mm S 20 i ∧ wI w (P 1 i) 6 = mm S 13 i ∧ (∀ b, b < nB S → mm S 14 i = nI b → wR w (P 1 i) 3 = some (P 0 b)) ∧
    (mm S 13 i = 0 → wI w (P 1 i) 7 = mm S 15 i ∧ wI w (P 1 i) 8 = mm S 19 i ∧ wI w (P 1 i) 9 = mm S 17 i ∧ wI w (P 1 i) 10 = mm S 18 i)) ∧ (∀ i j, 1 ≤ i → i ≤ nT S → 1 ≤ j → j ≤ nT S → P 1 i = P 1 j → i = j)
def prevO (l : List Nat) (p : Nat) : Option Nat := if p = 0 then none else l[p - 1]?
def c6 (S : St) (w : Wd) (P : Nat → Nat → Nat) : Prop := ∀ b p i, (rr S b)[p]? = some i → wR w (P 1 i) 4 = (prevO (rr S b) p).map (P 1) ∧ wR w (P 1 i) 5 = (rr S b)[p + 1]?.map (P 1)
def c7 (S : St) (w : Wd) (P : Nat → Nat → Nat) : Prop := ∀ s, s < nS S → bw_is w (P 3 s) 3 ∧ wI w (P 3 s) 0 = nI s ∧ (∀ b, b < nB S → mm S 22 s = nI b → wR w (P 3 s) 1 = some (P 0 b)) ∧ wI w (P 3 s) 2 = mm S 23 s ∧ wI w (P 3 s) 3 = mm S 24 s
def c8 (S : St) (w : Wd) (LE LW : List (Nat × Ed)) : Prop := LE.map Prod.snd = eds S ∧ LW.map Prod.snd = wts S ∧ (∀ x ∈ LE, edAt w x.1 x.2) ∧ ∀ x ∈ LW, edAt w x.1 x.2
def RC (e0 : Nat) (S : St) (w : Wd) (q : Nat) (P : Nat → Nat → Nat) (LE LW : List (Nat × Ed)) : Prop := c1 S w q P ∧ c2 e0 S w P LE LW ∧ c3 S w P ∧ c4 S w P ∧ c5 S w P ∧ c6 S w P ∧ c7 S w P ∧ c8 S w LE LW
/-! each of these reads cells of one kind -/
theorem c1_kp {S : St} {w w' : Wd} {q : Nat} {P : Nat → Nat → Nat} {X : Nat → Prop} (h : c1 S w q P) (hk : Kp X w w') (hX : ∀ a, bw_is w a 5 → ¬ X a) : c1 S w' q P := by
  obtain ⟨h1, h2, h3, h4, h5⟩ := h
  have hI := hk.I h1.1 (hX q h1)
  have hR := hk.R h1.1 (hX q h1)
  exact ⟨hk.is h1, by rw [hI]; exact h2, by rw [hI]; exact h3, by rw [hI]; exact h4, fun k hk2 => by rw [hR]; exact h5 k hk2⟩
theorem c2_kp {e0 : Nat} {S : St} {w w' : Wd} {P : Nat → Nat → Nat} {LE LW : List (Nat × Ed)} {X : Nat → Prop} (h : c2 e0 S w P LE LW) (hk : Kp X w w') (hX : ∀ a, bw_is w a 7 → ¬ X a) (hX2 : ∀ a, bw_is w a 100 → ¬ X a) : c2 e0 S w' P LE LW := by
  refine ⟨fun k hk2 => ?_, h.2.1, h.2.2⟩
  have h1 := h.1 k hk2
  exact isK_kp h1 hk (hX _ h1.1) (fun z => hX2 _ (h1.2.2.2.2.2.2 z).2.1)
theorem c3_kp {S : St} {w w' : Wd} {P : Nat → Nat → Nat} {X : Nat → Prop} (h : c3 S w P) (hk : Kp X w w') (hX : ∀ a, bw_is w a 0 → ¬ X a) : c3 S w' P := by
  refine ⟨fun b hb => ?_, h.2⟩
  have h1 := h.1 b hb
  rw [hk.I h1.1.1 (hX _ h1.1), hk.R h1.1.1 (hX _ h1.1)]
  exact ⟨hk.is h1.1, h1.2⟩
theorem c4_kp {S : St} {w w' : Wd} {P : Nat → Nat → Nat} {X : Nat → Prop} (h : c4 S w P) (hk : Kp X w w') (hX : ∀ a, bw_is w a 4 → ¬ X a) : c4 S w' P := by
  refine ⟨fun b hb => ?_, h.2⟩
  have h1 := h.1 b hb
  rw [hk.I h1.1.1 (hX _ h1.1), hk.R h1.1.1 (hX _ h1.1)]
  exact ⟨hk.is h1.1, h1.2⟩
theorem c5_kp {S : St} {w w' : Wd} {P : Nat → Nat → Nat} {X : Nat → Prop} (h : c5 S w P) (hk : Kp X w w') (hX : ∀ a, bw_is w a 2 → ¬ X a) : c5 S w' P := by
  refine ⟨fun i hi1 hi2 => ?_, h.2⟩
  have h1 := h.1 i hi1 hi2
  rw [hk.I h1.1.1 (hX _ h1.1), hk.R h1.1.1 (hX _ h1.1)]
  exact ⟨hk.is h1.1, h1.2⟩
theorem c6_kp {S : St} {w w' : Wd} {P : Nat → Nat → Nat} {X : Nat → Prop} (h : c6 S w P) (h5 : c5 S w P) (hS : okS S) (hk : Kp X w w') (hX : ∀ a, bw_is w a 2 → ¬ X a) : c6 S w' P := by
  intro b p i hp
  have hi := hS.2.2.1 b i (List.mem_of_getElem? hp)
  have h1 := (h5.1 i hi.1 hi.2.1).1
  rw [hk.R h1.1 (hX _ h1)]
  exact h b p i hp
theorem c7_kp {S : St} {w w' : Wd} {P : Nat → Nat → Nat} {X : Nat → Prop} (h : c7 S w P) (hk : Kp X w w') (hX : ∀ a, bw_is w a 3 → ¬ X a) : c7 S w' P := by
  intro s hs
  have h1 := h s hs
  rw [hk.I h1.1.1 (hX _ h1.1), hk.R h1.1.1 (hX _ h1.1)]
  exact ⟨hk.is h1.1, h1.2⟩
theorem edAt_kp {w w' : Wd} {a : Nat} {e : Ed} {X : Nat → Prop} (h : edAt w a e) (hk : Kp X w w') (hX : ∀ a, bw_is w a 1 → ¬ X a) : edAt w' a e := by
  obtain ⟨h1, h2⟩ := h
  rw [← hk.I h1.1 (hX a h1)] at h2
  exact ⟨hk.is h1, h2⟩
theorem c8_kp {S : St} {w w' : Wd} {LE LW : List (Nat × Ed)} {X : Nat → Prop} (h : c8 S w LE LW) (hk : Kp X w w') (hX : ∀ a, bw_is w a 1 → ¬ X a) : c8 S w' LE LW :=
  ⟨h.1, h.2.1, fun x hx => edAt_kp (h.2.2.1 x hx) hk hX, fun x hx => edAt_kp (h.2.2.2 x hx) hk hX⟩
/-- all at once, where what changed is no cell that the class holds -/
theorem RC_kp {e0 : Nat} {S : St} {w w' : Wd} {q : Nat} {P : Nat → Nat → Nat} {LE LW : List (Nat × Ed)} {X : Nat → Prop} (h : RC e0 S w q P LE LW) (hS : okS S) (hk : Kp X w w') (hX : ∀ a ci, bw_is w a ci → X a → kM ci) : RC e0 S w' q P LE LW := by
  have hx : ∀ ci, ¬ kM ci → ∀ a, bw_is w a ci → ¬ X a := fun ci hc a ha hxa => hc (hX a ci ha hxa)
  obtain ⟨h1, h2, h3, h4, h5, h6, h7, h8⟩ := h
  have n : ∀ ci, ci < 6 ∨ ci = 7 ∨ ci = 100 → ¬ kM ci := fun ci hci => by unfold kM; omega
  exact ⟨c1_kp h1 hk (hx 5 (n 5 (by decide))), c2_kp h2 hk (hx 7 (n 7 (by decide))) (hx 100 (n 100 (by decide))), c3_kp h3 hk (hx 0 (n 0 (by decide))), c4_kp h4 hk (hx 4 (n 4 (by decide))), c5_kp h5 hk (hx 2 (n 2 (by decide))), c6_kp h6 h5 hS hk (hx 2 (n 2 (by decide))), c7_kp h7 hk (hx 3 (n 3 (by decide))), c8_kp h8 hk (hx 1 (n 1 (by decide)))⟩
end
section
/-! THE CLASS: what it reads -/
theorem range_get {α : Type} {f : Nat → α} {n j : Nat} (h : j < n) : ((List.range n).map f)[j]? = some (f j) := by
  rw [List.getElem?_map, List.getElem?_range h]; rfl
theorem opt_ne {α : Type} {o : Option α} (h : ¬ o = none) : ∃ x, o = some x := by
  cases o with
  | none => exact absurd rfl h
  | some x => exact ⟨x, rfl⟩
/-- an item of a row -/
theorem in_row {S : St} (hS : okS S) {b i : Nat} (h : i ∈ rr S b) : b < nB S ∧ 1 ≤ i ∧ i ≤ nT S ∧ mm S 13 i = 0 ∧ mm S 14 i = nI b ∧ (mm S 17 i = 0 ∨ mm S 17 i = 1) ∧ b < 8 ∧ i < 61 := by
  have h1 := hS.2.2.1 b i h
  have hb : b < nB S := by
    rcases Nat.lt_or_ge b (nB S) with z | z
    · exact z
    · rw [hS.2.1 b z] at h; cases h
  have := hS.1
  exact ⟨hb, h1.1, h1.2.1, h1.2.2.1, h1.2.2.2.1, h1.2.2.2.2, by omega, by omega⟩
section CL
variable {e0 mi q : Nat} {P : Nat → Nat → Nat} {S : St} {w : Wd} {LE LW : List (Nat × Ed)}
theorem C_rear {i : Nat} {Q : Int32 → Wd → Prop} (R : RC e0 S w q P LE LW) (h1 : 1 ≤ i) (h2 : i ≤ nT S) (h0 : mm S 13 i = 0) (hQ : Q (rearS S i) w) : wp_It_rear e0 mi (P 1 i) w Q := by
  unfold wp_It_rear
  have h5 := R.2.2.2.2.1.1 i h1 h2
  refine ⟨h5.1, ?_⟩
  rw [(h5.2.2.2.2.2.2 h0).1, h5.2.2.1]
  exact hQ
/-- what is missing to room, never below 0 -/
def missC (S : St) (b : Nat) : Int32 := if (0 : Int32) < missS S b then missS S b else 0
theorem C_missing {b : Nat} {Q : Int32 → Wd → Prop} (R : RC e0 S w q P LE LW) (hS : okS S) (hb : b < nB S) (hQ : Q (missC S b) w) : wp_Br_missingToRoom e0 mi q (some (P 0 b)) w Q := by
  unfold wp_Br_missingToRoom wb_Br_missingToRoom_27
  have h3 := R.2.2.1.1 b hb
  have h35 := h3.2.2.2.2.2.2.2.1
  unfold missC missS at hQ
  refine ⟨P 0 b, rfl, h3.1, ?_⟩
  rw [h35]
  cases hl : (rr S b).getLast? with
  | none =>
    rw [hl] at hQ
    refine ⟨fun z => absurd rfl z, fun _ => ?_⟩
    have : (if (0 : Int32) < 0 then (0 : Int32) else 0) = 0 := by decide
    simp only [] at hQ
    rw [this] at hQ
    exact hQ
  | some i =>
    rw [hl] at hQ
    have hi := in_row hS (List.mem_of_getLast? hl)
    have h5 := R.2.2.2.2.1.1 i hi.2.1 hi.2.2.1
    refine ⟨fun _ => ⟨R.1.1, P 1 i, rfl, h5.1, C_rear R hi.2.1 hi.2.2.1 hi.2.2.2.1 (fun i14 e14 => ?_)⟩, fun z => absurd z (by simp)⟩
    rw [R.1.2.1] at e14
    subst e14
    exact hQ
theorem C_atEnd {b : Nat} {Q : Option Nat → Wd → Prop} (R : RC e0 S w q P LE LW) (hS : okS S) (hb : b < nB S) (hQ : Q ((atEndS S b).map (P 1)) w) : wp_Bt_itemAtEnd e0 mi (P 0 b) w Q := by
  unfold wp_Bt_itemAtEnd wb_Bt_itemAtEnd_28 wb_Bt_itemAtEnd_29
  have h3 := R.2.2.1.1 b hb
  have h34 := h3.2.2.2.2.2.2.1
  unfold atEndS at hQ
  refine ⟨h3.1, ?_⟩
  rw [h34]
  cases hl : rr S b with
  | nil =>
    rw [hl] at hQ
    exact ⟨fun _ => hQ, fun z => absurd rfl z⟩
  | cons i t =>
    rw [hl] at hQ
    have hi := in_row hS (show i ∈ rr S b by rw [hl]; exact List.mem_cons_self)
    have h5 := R.2.2.2.2.1.1 i hi.2.1 hi.2.2.1
    refine ⟨fun z => absurd z (by simp), fun _ => ⟨P 1 i, rfl, h5.1, ?_⟩⟩
    rw [(h5.2.2.2.2.2.2 hi.2.2.2.1).1, h3.2.2.1]
    refine ⟨fun z => ?_, fun z => ?_⟩
    · simp only [if_neg z] at hQ
      exact hQ
    · simp only [if_pos z] at hQ
      exact hQ
theorem C_wayN {b y : Nat} {v : Int32} {Q : Option Nat → Wd → Prop} (R : RC e0 S w q P LE LW) (hb : b < nB S) (hy : y < 2) (hv : v = nI y) (hQ : Q (some (P 2 (2 * b + y))) w) : wp_Bt_wayNumbered e0 mi (P 0 b) v w Q := by
  unfold wp_Bt_wayNumbered wb_Bt_wayNumbered_16
  have h3 := R.2.2.1.1 b hb
  rw [h3.2.2.2.2.2.2.2.2.1, h3.2.2.2.2.2.2.2.2.2, hv]
  rcases Nat.lt_or_ge y 1 with z | z
  · have y0 : y = 0 := by omega
    subst y0
    exact ⟨fun _ => ⟨h3.1, hQ⟩, fun z => absurd z (by decide)⟩
  · have y1 : y = 1 := by omega
    subst y1
    exact ⟨fun z => absurd rfl z, fun _ => ⟨h3.1, hQ⟩⟩
/-- the next belt of a way -/
theorem way_next (R : RC e0 S w q P LE LW) (hS : okS S) {b y : Nat} (hb : b < nB S) (hy : y < 2) : (mm S 7 (2 * b + y) = -1 ↔ wR w (P 2 (2 * b + y)) 0 = none) := by
  have h4 := R.2.2.2.1.1 (2 * b + y) (by omega)
  refine ⟨h4.2.2.1, fun z => ?_⟩
  rcases hS.2.2.2.2.2.1 b hb y hy with h | ⟨c, c1, c2, c3⟩
  · exact h
  · rw [h4.2.2.2.1 c c2 c3] at z; cases z
theorem C_wayOf {b i : Nat} {Q : Option Nat → Wd → Prop} (R : RC e0 S w q P LE LW) (hS : okS S) (hi : i ∈ rr S b) (hQ : Q ((goesS S b i).map (P 2)) w) : wp_Bt_wayOf e0 mi (P 0 b) (some (P 1 i)) w Q := by
  obtain ⟨hb, i1, i2', i3, i4, i5, b8, i61⟩ := in_row hS hi
  have h3 := R.2.2.1.1 b hb
  have h5 := R.2.2.2.2.1.1 i i1 i2'
  obtain ⟨y, hy, hy2⟩ : ∃ y, mm S 17 i = nI y ∧ y < 2 := by
    rcases i5 with z | z
    · exact ⟨0, z, by decide⟩
    · exact ⟨1, z, by decide⟩
  have cy : (nI y).toNatClampNeg = y := nI_clamp (by omega)
  have n1 := way_next R hS hb hy2
  have n0 : mm S 7 (2 * b) = -1 ↔ wR w (P 2 (2 * b)) 0 = none := way_next R hS hb (y := 0) (by decide)
  unfold goesS at hQ
  rw [hy, cy] at hQ
  unfold wp_Bt_wayOf wb_Bt_wayOf_36
  refine ⟨P 1 i, rfl, h5.1, h3.1, C_wayN R hb hy2 ((h5.2.2.2.2.2.2 i3).2.2.1.trans hy) ⟨P 2 (2 * b + y), rfl, (R.2.2.2.1.1 (2 * b + y) (by omega)).1, fun z => ⟨h3.1, P 2 (2 * b), h3.2.2.2.2.2.2.2.2.1, (R.2.2.2.1.1 (2 * b) (by omega)).1, fun z2 => ?_, fun z2 => ?_⟩, fun z => ?_⟩⟩
  · rw [if_pos (n1.mpr z), if_pos (n0.mpr z2)] at hQ; exact hQ
  · rw [if_pos (n1.mpr z), if_neg (fun y => z2 (n0.mp y))] at hQ
    rw [h3.2.2.2.2.2.2.2.2.1]; exact hQ
  · rw [if_neg (fun y => z (n1.mp y))] at hQ; exact hQ
/-- the way by which a belt would pass its first item on now -/
def useS (S : St) (x : Nat) : Option Nat := if mm S 6 x = 0 then none else match atEndS S x with
  | none => none
  | some j => goesS S x j
theorem C_inUse {x : Nat} {Q : Option Nat → Wd → Prop} (R : RC e0 S w q P LE LW) (hS : okS S) (hx : x < nB S) (hQ : Q ((useS S x).map (P 2)) w) : wp_Bt_wayInUse e0 mi (P 0 x) w Q := by
  have h3 := R.2.2.1.1 x hx
  unfold wp_Bt_wayInUse wb_Bt_wayInUse_24 wb_Bt_wayInUse_25
  unfold useS at hQ
  refine ⟨h3.1, C_atEnd R hS hx ⟨h3.1, ?_⟩⟩
  rw [h3.2.2.2.2.1]
  refine ⟨fun z => ?_, fun z => ?_⟩
  · rw [if_pos z] at hQ; exact hQ
  · rw [if_neg z] at hQ
    cases ha : atEndS S x with
    | none =>
      rw [ha] at hQ
      exact ⟨fun _ => hQ, fun z => absurd rfl z⟩
    | some j =>
      rw [ha] at hQ
      obtain ⟨t, ht, -⟩ := atEnd_some ha
      exact ⟨fun z => absurd z (by simp), fun _ => C_wayOf R hS (by rw [ht]; exact List.mem_cons_self) hQ⟩
theorem use_cand {S : St} (b x : Nat) : candS S b x = match useS S x with
    | none => none
    | some k => if mm S 7 k = nI b then some k else none := by
  unfold candS useS
  by_cases h6 : mm S 6 x = 0
  · rw [if_pos h6, if_pos h6]
  · rw [if_neg h6, if_neg h6]
    cases ha : atEndS S x with
    | none => rfl
    | some j => rfl
theorem use_some {S : St} (hS : okS S) {x k : Nat} (h : useS S x = some k) : x < nB S ∧ (∃ y, y < 2 ∧ k = 2 * x + y) ∧ ¬ mm S 7 k = -1 := by
  unfold useS at h
  by_cases h6 : mm S 6 x = 0
  · rw [if_pos h6] at h; cases h
  · rw [if_neg h6] at h
    cases ha : atEndS S x with
    | none => rw [ha] at h; cases h
    | some j =>
      rw [ha] at h
      obtain ⟨t, ht, -⟩ := atEnd_some ha
      have hi := in_row hS (show j ∈ rr S x by rw [ht]; exact List.mem_cons_self)
      rcases goes_gb (b := x) hi.2.2.2.2.2.1 with ⟨-, g2⟩ | ⟨y, y1, -, g2, g3⟩
      · simp [g2] at h
      · simp only [g2] at h
        cases h
        exact ⟨hi.1, ⟨y, y1, rfl⟩, g3⟩
/-- the list of belts -/
theorem C_beltAt {j : Nat} {Q : Option Nat → Wd → Prop} (R : RC e0 S w q P LE LW) (hj : j < nB S) (hQ : Q (some (P 0 j)) w) : wp_Al_get e0 mi (P 6 0) (nI j) w Q := isK_get (R.2.1.1 0 (by decide)) (range_get hj) hQ
theorem C_size {k : Nat} {Q : Int32 → Wd → Prop} (R : RC e0 S w q P LE LW) (hk : k < 6) (hQ : Q (nI (lsx S P LE LW k).length) w) : ∃ a : Nat, (wR w q k) = some a ∧ (bw_is w a 7 ∧ wp_Al_size e0 mi a w Q) :=
  ⟨P 6 k, R.1.2.2.2.2 k hk, (R.2.1.1 k hk).1, isK_size (R.2.1.1 k hk) hQ⟩
theorem lsx0 (S : St) (P : Nat → Nat → Nat) (LE LW : List (Nat × Ed)) : (lsx S P LE LW 0).length = nB S := by simp [lsx]
theorem C_giver {b : Nat} {Q : Option Nat → Wd → Prop} (R : RC e0 S w q P LE LW) (hS : okS S) (hb : b < nB S) (hQ : Q ((giverS S b b).map (fun k => P 0 (k / 2))) w) : ∀ (n x : Nat), x + n = b → wb_Br_giverTo_7 e0 mi Q (n + 1) q (some (P 0 b)) ((giverS S b x).map (fun k => P 0 (k / 2))) ((giverS S b x).map (P 2)) (nI x) w := by
  have hb8 := hS.1.1
  have h3 := R.2.2.1.1 b hb
  intro n
  induction n with
  | zero =>
    intro x hx
    have : x = b := by omega
    subst this
    unfold wb_Br_giverTo_7 wb_Br_giverTo_88
    refine ⟨P 0 x, rfl, h3.1, ?_⟩
    rw [h3.2.1]
    exact ⟨fun _ => hQ, fun z => absurd (nI_le (Nat.le_refl _) (by omega)) z⟩
  | succ n ih =>
    intro x hx
    have hxB : x < nB S := by omega
    have hnext : ∀ (best : Option Nat) (r5 r6 : Option Nat), giverS S b (x + 1) = best → wb_Br_giverTo_82 e0 mi (wb_Br_giverTo_7 e0 mi Q (n + 1)) Q q (some (P 0 b)) (best.map (fun k => P 0 (k / 2))) (best.map (P 2)) (nI x) r5 r6 w := fun best r5 r6 hbest => by
      unfold wb_Br_giverTo_82
      intro i1 e1
      rw [e1, nI_1, ← hbest]
      exact ih (x + 1) (by omega)
    unfold wb_Br_giverTo_7
    refine ⟨P 0 b, rfl, h3.1, ?_⟩
    rw [h3.2.1]
    refine ⟨fun z => absurd z (nI_ge (by omega) (by omega)), fun _ => ⟨R.1.1, C_size R (k := 0) (by decide) ?_⟩⟩
    rw [lsx0]
    refine ⟨fun z => absurd z (nI_ge hxB (by omega)), fun _ => ⟨R.1.1, P 6 0, R.1.2.2.2.2 0 (by decide), (R.2.1.1 0 (by decide)).1, C_beltAt R hxB ⟨fun a ha => (by cases ha; exact (R.2.2.1.1 x hxB).1), P 0 x, rfl, (R.2.2.1.1 x hxB).1, C_inUse R hS hxB ?_⟩⟩⟩
    cases hu : useS S x with
    | none =>
      have hc : candS S b x = none := by rw [use_cand, hu]
      exact ⟨fun _ => hnext _ _ _ (giver_step hc), fun z => absurd rfl z⟩
    | some k =>
      obtain ⟨-, ⟨y, hy, hky⟩, hk7⟩ := use_some hS hu
      have hk2 : k / 2 = x := by omega
      have h4 := R.2.2.2.1.1 k (by omega)
      obtain ⟨c, c1, c2, c3⟩ : ∃ c, x < c ∧ c < nB S ∧ mm S 7 k = nI c := by
        rcases hS.2.2.2.2.2.1 x hxB y hy with z | z
        · rw [← hky] at z; exact absurd z hk7
        · rw [← hky] at z; exact z
      refine ⟨fun z => absurd z (by simp), fun _ => ⟨P 2 k, rfl, h4.1, ?_⟩⟩
      rw [h4.2.2.2.1 c c2 c3]
      have hcb : (some (P 0 c) = some (P 0 b)) ↔ mm S 7 k = nI b := by
        rw [c3]
        constructor
        · intro z
          rw [R.2.2.1.2 c b c2 hb (Option.some.inj z)]
        · intro z
          rw [(nI_eq (by omega) (by omega)).mp z]
      refine ⟨fun z => ?_, fun z => ?_⟩
      · have hc : candS S b x = none := by rw [use_cand, hu]; simp only [if_neg (fun y => z (hcb.mpr y))]
        exact hnext _ _ _ (giver_step hc)
      · have hc : candS S b x = some k := by rw [use_cand, hu]; simp only [if_pos (hcb.mp z)]
        have e1 : (some (P 0 x) : Option Nat) = (some k).map (fun k => P 0 (k / 2)) := by show some (P 0 x) = some (P 0 (k / 2)); rw [hk2]
        refine ⟨fun z2 => ?_, fun z2 => ?_⟩
        · have hbn : giverS S b x = none := by
            cases hg : giverS S b x with
            | none => rfl
            | some j => rw [hg] at z2; cases z2
          unfold wb_Br_giverTo_76
          rw [e1]
          exact hnext (some k) _ _ (by rw [giver_step hc, hbn]; rfl)
        · cases hg : giverS S b x with
          | none => rw [hg] at z2; exact absurd rfl z2
          | some j =>
            obtain ⟨x', hx', hk'⟩ := giver_some x j hg
            obtain ⟨j', t', -, -, -, ⟨y', hy', hky'⟩, h7j, -⟩ := cand_some hS hk'
            have h4j := R.2.2.2.1.1 j (by omega)
            have nj : ¬ mm S 7 j = -1 := by rw [h7j]; exact nI_nm (by omega)
            unfold wp_Wy_isDueBefore wb_Wy_isDueBefore_26
            refine ⟨h4.1, P 2 j, rfl, h4j.1, ?_⟩
            rw [h4.2.1, h4j.2.1, h4.2.2.2.2 hk7, h4j.2.2.2.2 nj]
            refine ⟨fun q3 => ⟨Or.inl rfl, fun _ => ?_, fun y => absurd rfl y⟩, fun q3 => ⟨Or.inr rfl, fun y => absurd y (by decide), fun _ => ?_⟩⟩
            · refine hnext (some j) _ _ ?_
              rw [giver_step hc, hg]
              show (if mm S 9 k * mm S 8 j < mm S 9 j * mm S 8 k then some k else some j) = some j
              rw [if_neg (Int32.not_lt.mpr q3)]
            · unfold wb_Br_giverTo_76
              rw [e1]
              refine hnext (some k) _ _ ?_
              rw [giver_step hc, hg]
              show (if mm S 9 k * mm S 8 j < mm S 9 j * mm S 8 k then some k else some j) = some k
              rw [if_pos (Int32.not_le.mp q3)]
end CL
end
section
/-! THE CLASS: an item is let go, taken on -/
/-- behind letGo of the item a1 from the belt c, whose neighbours are Ah and Bh -/
def letG (w w' : Wd) (c a1 : Nat) (Ah Bh : Option Nat) : Prop :=
  wL w' = wL w ∧ wK w' = wK w ∧ wN w' = wN w ∧ wJ w' = wJ w ∧
  (∀ x s, wI w' x s = if x = c ∧ s = 6 then wI w c 6 - 1 else wI w x s) ∧
  (∀ x s, s ≠ 4 → s ≠ 5 → wR w' x s = wR w x s) ∧
  (∀ x, wR w' x 4 = if x = a1 then none else if Bh = some x then Ah else if Ah = none ∧ x = c then Bh else wR w x 4) ∧
  (∀ x, wR w' x 5 = if x = a1 then none else if Ah = some x then Bh else if Bh = none ∧ x = c then Ah else wR w x 5)
theorem letG_tail {e0 mi c a1 : Nat} {w w2 : Wd} {Ah Bh : Option Nat} {Q : Wd → Prop} (h1 : bw_is w2 a1 2) (hc : bw_is w2 c 0) (hL : wL w2 = wL w ∧ wK w2 = wK w ∧ wN w2 = wN w ∧ wJ w2 = wJ w) (hI : wI w2 = wI w)
    (hR : ∀ x s, s ≠ 4 → s ≠ 5 → wR w2 x s = wR w x s) (h4 : ∀ x, x ≠ a1 → wR w2 x 4 = if Bh = some x then Ah else if Ah = none ∧ x = c then Bh else wR w x 4)
    (h5 : ∀ x, x ≠ a1 → wR w2 x 5 = if Ah = some x then Bh else if Bh = none ∧ x = c then Ah else wR w x 5) (hQ : ∀ w', letG w w' c a1 Ah Bh → Q w') : wb_Bt_letGo_58 e0 mi Q c (some a1) w2 := by
  unfold wb_Bt_letGo_58
  refine ⟨a1, rfl, h1, hc, hQ _ ⟨hL.1, hL.2.1, hL.2.2.1, hL.2.2.2, fun x s => ?_, fun x s s4 s5 => ?_, fun x => ?_, fun x => ?_⟩⟩
  · rw [pI_I, pI_R, pI_R, hI]
  · rw [pR_I, pR_R, if_neg (fun z => s5 z.2), pR_R, if_neg (fun z => s4 z.2)]; exact hR x s s4 s5
  · rw [pR_I, pR_R, if_neg (fun z => by simp at z), pR_R]
    by_cases hx : x = a1
    · rw [if_pos ⟨hx, rfl⟩, if_pos hx]
    · rw [if_neg (fun z => hx z.1), if_neg hx]; exact h4 x hx
  · rw [pR_I, pR_R]
    by_cases hx : x = a1
    · rw [if_pos ⟨hx, rfl⟩, if_pos hx]
    · rw [if_neg (fun z => hx z.1), if_neg hx, pR_R, if_neg (fun z => hx z.1)]; exact h5 x hx
theorem C_letGo {e0 mi c a1 : Nat} {w : Wd} {Ah Bh : Option Nat} {Q : Wd → Prop} (h1 : bw_is w a1 2) (hc : bw_is w c 0) (hA : wR w a1 4 = Ah) (hB : wR w a1 5 = Bh) (hA2 : ∀ x, Ah = some x → bw_is w x 2 ∧ x ≠ a1) (hB2 : ∀ x, Bh = some x → bw_is w x 2 ∧ x ≠ a1)
    (hQ : ∀ w', letG w w' c a1 Ah Bh → Q w') : wp_Bt_letGo e0 mi c (some a1) w Q := by
  have hca : c ≠ a1 := fun z => by
    have := hc.2; rw [z, h1.2] at this; exact absurd this (by decide)
  have hcA : ∀ x, Ah = some x → x ≠ c := fun x hx z => by
    have h2 := (hA2 x hx).1.2; rw [z, hc.2] at h2; exact absurd h2 (by decide)
  have hcB : ∀ x, Bh = some x → x ≠ c := fun x hx z => by
    have h2 := (hB2 x hx).1.2; rw [z, hc.2] at h2; exact absurd h2 (by decide)
  unfold wp_Bt_letGo
  refine ⟨a1, rfl, h1, ?_⟩
  rw [hA, hB]
  -- the first store
  have T : ∀ w1 : Wd, wL w1 = wL w ∧ wK w1 = wK w ∧ wN w1 = wN w ∧ wJ w1 = wJ w → wI w1 = wI w → (∀ x s, s ≠ 4 → s ≠ 5 → wR w1 x s = wR w x s) → (∀ x, wR w1 x 4 = if Ah = none ∧ x = c then Bh else wR w x 4) → (∀ x, wR w1 x 5 = if Ah = some x then Bh else wR w x 5) → wb_Bt_letGo_29 e0 mi Q c (some a1) w1 := fun w1 hL hI hR h4 h5 => by
    have i1 : bw_is w1 a1 2 := ⟨by rw [hL.1]; exact h1.1, by rw [hL.2.1]; exact h1.2⟩
    have ic : bw_is w1 c 0 := ⟨by rw [hL.1]; exact hc.1, by rw [hL.2.1]; exact hc.2⟩
    have b5 : wR w1 a1 5 = Bh := by
      rw [h5, hB]
      by_cases z : Ah = some a1
      · exact absurd rfl (hA2 a1 z).2
      · rw [if_neg z]
    have b4 : wR w1 a1 4 = Ah := by
      rw [h4, if_neg (fun z => hca z.2.symm), hA]
    unfold wb_Bt_letGo_29
    refine ⟨a1, rfl, i1, ?_⟩
    rw [b5, b4]
    refine ⟨fun z => ?_, fun z => ⟨ic, ?_⟩⟩
    · obtain ⟨x, hx⟩ := opt_ne z
      have ix : bw_is w1 x 2 := ⟨by rw [hL.1]; exact (hB2 x hx).1.1, by rw [hL.2.1]; exact (hB2 x hx).1.2⟩
      refine ⟨x, hx, ix, letG_tail i1 ic hL hI (fun y s s4 s5 => ?_) (fun y hy => ?_) (fun y hy => ?_) hQ⟩
      · rw [pR_R, if_neg (fun q => s4 q.2)]; exact hR y s s4 s5
      · rw [pR_R]
        by_cases hyx : y = x
        · rw [if_pos ⟨hyx, rfl⟩, if_pos (by rw [hx, hyx])]
        · rw [if_neg (fun q => hyx q.1), if_neg (fun q => hyx (by rw [hx] at q; exact (Option.some.inj q).symm))]; exact h4 y
      · rw [pR_R, if_neg (fun q => by simp at q), h5]
        by_cases hya : Ah = some y
        · rw [if_pos hya, if_pos hya]
        · rw [if_neg hya, if_neg hya, if_neg (fun q => z q.1)]
    · refine letG_tail i1 ic hL hI (fun y s s4 s5 => ?_) (fun y hy => ?_) (fun y hy => ?_) hQ
      · rw [pR_R, if_neg (fun q => s5 q.2)]; exact hR y s s4 s5
      · rw [pR_R, if_neg (fun q => by simp at q), h4, if_neg (show ¬ Bh = some y by rw [z]; simp)]
      · rw [pR_R]
        by_cases hyc : y = c
        · rw [if_pos ⟨hyc, rfl⟩, if_neg (fun q => hcA y q hyc), if_pos ⟨z, hyc⟩]
        · rw [if_neg (fun q => hyc q.1), h5]
          by_cases hya : Ah = some y
          · rw [if_pos hya, if_pos hya]
          · rw [if_neg hya, if_neg hya, if_neg (fun q => hyc q.2)]
  refine ⟨fun z => ?_, fun z => ⟨hc, ?_⟩⟩
  · obtain ⟨x, hx⟩ := opt_ne z
    refine ⟨x, hx, (hA2 x hx).1, T _ ⟨rfl, rfl, rfl, rfl⟩ rfl (fun y s s4 s5 => ?_) (fun y => ?_) (fun y => ?_)⟩
    · rw [pR_R, if_neg (fun q => s5 q.2)]
    · rw [pR_R, if_neg (fun q => by simp at q), if_neg (fun q => z q.1)]
    · rw [pR_R]
      by_cases hyx : y = x
      · rw [if_pos ⟨hyx, rfl⟩, if_pos (by rw [hx, hyx])]
      · rw [if_neg (fun q => hyx q.1), if_neg (fun q => hyx (by rw [hx] at q; exact (Option.some.inj q).symm))]
  · refine T _ ⟨rfl, rfl, rfl, rfl⟩ rfl (fun y s s4 s5 => ?_) (fun y => ?_) (fun y => ?_)
    · rw [pR_R, if_neg (fun q => s4 q.2)]
    · rw [pR_R]
      by_cases hyc : y = c
      · rw [if_pos ⟨hyc, rfl⟩, if_pos ⟨z, hyc⟩]
      · rw [if_neg (fun q => hyc q.1), if_neg (fun q => hyc q.2)]
    · rw [pR_R, if_neg (fun q => by simp at q), if_neg (fun q => by rw [z] at q; cases q)]
/-- the links of a row without its p-th item -/
theorem prevO_erase (l : List Nat) (p k : Nat) : prevO (l.eraseIdx p) k = if k ≤ p then prevO l k else l[k]? := by
  unfold prevO
  by_cases hk0 : k = 0
  · rw [if_pos hk0, if_pos (by omega), if_pos hk0]
  · rw [if_neg hk0, if_neg hk0, List.getElem?_eraseIdx]
    by_cases hkp : k ≤ p
    · rw [if_pos hkp, if_pos (by omega)]
    · rw [if_neg hkp, if_neg (by omega), show k - 1 + 1 = k by omega]
theorem letG_links {P : Nat → Nat → Nat} {w w' : Wd} {c p i : Nat} {l : List Nat} (hg : letG w w' c (P 1 i) ((prevO l p).map (P 1)) (l[p + 1]?.map (P 1))) (hn : l.Nodup) (hp : l[p]? = some i) (hinj : ∀ a ∈ l, ∀ b ∈ l, P 1 a = P 1 b → a = b) (hc : ∀ a ∈ l, P 1 a ≠ c)
    (hl : ∀ k j, l[k]? = some j → wR w (P 1 j) 4 = (prevO l k).map (P 1) ∧ wR w (P 1 j) 5 = l[k + 1]?.map (P 1)) :
    ∀ k j, (l.eraseIdx p)[k]? = some j → wR w' (P 1 j) 4 = (prevO (l.eraseIdx p) k).map (P 1) ∧ wR w' (P 1 j) 5 = (l.eraseIdx p)[k + 1]?.map (P 1) := by
  intro k j hk
  obtain ⟨-, -, -, -, -, -, g4, g5⟩ := hg
  have him : i ∈ l := List.mem_of_getElem? hp
  have hjm := (erase_mem hn hp).mp (List.mem_of_getElem? hk)
  have hji : P 1 j ≠ P 1 i := fun z => hjm.2 (hinj j hjm.1 i him z)
  have key : ∀ (a b x y : Nat), l[a]? = some x → l[b]? = some y → x = y → a = b := fun a b x y ha hb hxy => by
    subst hxy
    rcases Nat.lt_trichotomy a b with z | z | z
    · exact absurd ha (nodup_first hn hb a z)
    · exact z
    · exact absurd hb (nodup_first hn ha b z)
  rw [List.getElem?_eraseIdx] at hk
  have hlk : l[if k < p then k else k + 1]? = some j := by
    by_cases hkp : k < p
    · rw [if_pos hkp]; rw [if_pos hkp] at hk; exact hk
    · rw [if_neg hkp]; rw [if_neg hkp] at hk; exact hk
  have hold := hl _ j hlk
  have eqm : ∀ o : Option Nat, (∀ x, o = some x → x ∈ l) → (o.map (P 1) = some (P 1 j) ↔ o = some j) := fun o ho => by
    cases o with
    | none => simp
    | some x =>
      constructor
      · intro z
        have := hinj x (ho x rfl) j hjm.1 (Option.some.inj z)
        rw [this]
      · intro z; cases z; rfl
  have hB := eqm l[p + 1]? (fun x hx => List.mem_of_getElem? hx)
  have hA := eqm (prevO l p) (fun x hx => by
    unfold prevO at hx
    by_cases hp0 : p = 0
    · rw [if_pos hp0] at hx; cases hx
    · rw [if_neg hp0] at hx; exact List.mem_of_getElem? hx)
  have hjc : P 1 j ≠ c := hc j hjm.1
  refine ⟨?_, ?_⟩
  · rw [g4, if_neg hji, prevO_erase]
    by_cases hb : l[p + 1]? = some j
    · rw [if_pos (hB.mpr hb)]
      have := key _ _ _ _ hlk hb rfl
      have hkp : k = p := by
        by_cases z : k < p
        · rw [if_pos z] at this; omega
        · rw [if_neg z] at this; omega
      rw [if_pos (by omega), hkp]
    · rw [if_neg (fun z => hb (hB.mp z)), if_neg (fun z => hjc z.2), hold.1]
      by_cases z : k < p
      · rw [if_pos z, if_pos (by omega)]
      · have hkp : k ≠ p := fun q => hb (by rw [if_neg z, q] at hlk; exact hlk)
        rw [if_neg z, if_neg (by omega)]
        unfold prevO
        rw [if_neg (by omega), show k + 1 - 1 = k by omega]
  · rw [g5, if_neg hji, List.getElem?_eraseIdx]
    by_cases ha : prevO l p = some j
    · rw [if_pos (hA.mpr ha)]
      unfold prevO at ha
      by_cases hp0 : p = 0
      · rw [if_pos hp0] at ha; cases ha
      · rw [if_neg hp0] at ha
        have := key _ _ _ _ hlk ha rfl
        have hkp : k + 1 = p := by
          by_cases z : k < p
          · rw [if_pos z] at this; omega
          · rw [if_neg z] at this; omega
        rw [if_neg (by omega), hkp]
    · rw [if_neg (fun z => ha (hA.mp z)), if_neg (fun z => hjc z.2), hold.2]
      by_cases z : k < p
      · have hkp : k + 1 ≠ p := fun q => ha (by
          unfold prevO
          rw [if_neg (by omega), ← q, show k + 1 - 1 = k by omega]
          rw [if_pos z] at hlk; exact hlk)
        rw [if_pos z, if_pos (by omega)]
      · rw [if_neg z, if_neg (by omega)]
theorem letG_ends {P : Nat → Nat → Nat} {w w' : Wd} {c p i : Nat} {l : List Nat} (hg : letG w w' c (P 1 i) ((prevO l p).map (P 1)) (l[p + 1]?.map (P 1))) (hp : l[p]? = some i) (hc : ∀ a ∈ l, P 1 a ≠ c)
    (h4 : wR w c 4 = l[0]?.map (P 1)) (h5 : wR w c 5 = l.getLast?.map (P 1)) : wR w' c 4 = (l.eraseIdx p)[0]?.map (P 1) ∧ wR w' c 5 = (l.eraseIdx p).getLast?.map (P 1) := by
  obtain ⟨-, -, -, -, -, -, g4, g5⟩ := hg
  have him : i ∈ l := List.mem_of_getElem? hp
  have hlt := (List.getElem?_eq_some_iff.mp hp).1
  have hci : c ≠ P 1 i := fun z => hc i him z.symm
  have nob : ¬ l[p + 1]?.map (P 1) = some c := fun z => by
    cases hx : l[p + 1]? with
    | none => rw [hx] at z; cases z
    | some x => rw [hx] at z; exact hc x (List.mem_of_getElem? hx) (Option.some.inj z)
  have noa : ¬ (prevO l p).map (P 1) = some c := fun z => by
    cases hx : prevO l p with
    | none => rw [hx] at z; cases z
    | some x =>
      rw [hx] at z
      unfold prevO at hx
      by_cases hp0 : p = 0
      · rw [if_pos hp0] at hx; cases hx
      · rw [if_neg hp0] at hx
        exact hc x (List.mem_of_getElem? hx) (Option.some.inj z)
  have pn : (prevO l p).map (P 1) = none ↔ p = 0 := by
    unfold prevO
    by_cases hp0 : p = 0
    · rw [if_pos hp0]; simp [hp0]
    · rw [if_neg hp0, List.getElem?_eq_getElem (show p - 1 < l.length by omega)]
      simp [hp0]
  have bn : l[p + 1]?.map (P 1) = none ↔ p + 1 = l.length := by
    by_cases hb : p + 1 < l.length
    · rw [List.getElem?_eq_getElem hb]
      simp; omega
    · rw [List.getElem?_eq_none (by omega)]
      simp; omega
  refine ⟨?_, ?_⟩
  · rw [g4, if_neg hci, if_neg nob, List.getElem?_eraseIdx]
    by_cases hp0 : p = 0
    · rw [if_pos ⟨pn.mpr hp0, rfl⟩, if_neg (by omega), hp0]
    · rw [if_neg (fun z => hp0 (pn.mp z.1)), if_pos (by omega)]; exact h4
  · rw [g5, if_neg hci, if_neg noa, List.getLast?_eq_getElem?, List.getElem?_eraseIdx, List.length_eraseIdx, if_pos hlt]
    by_cases hb : p + 1 = l.length
    · rw [if_pos ⟨bn.mpr hb, rfl⟩]
      unfold prevO
      by_cases hp0 : p = 0
      · rw [if_pos hp0, if_neg (by omega), List.getElem?_eq_none (by omega)]
      · rw [if_neg hp0, if_pos (by omega), show l.length - 1 - 1 = p - 1 by omega]
    · rw [if_neg (fun z => hb (bn.mp z.1)), if_neg (by omega), h5, List.getLast?_eq_getElem?, show l.length - 1 - 1 + 1 = l.length - 1 by omega]
end
section
/-! THE CLASS: an item is taken on -/
def takG (w w' : Wd) (c a : Nat) (La : Option Nat) : Prop :=
  wL w' = wL w ∧ wK w' = wK w ∧ wN w' = wN w ∧ wJ w' = wJ w ∧
  (∀ x s, wI w' x s = if x = c ∧ s = 6 then wI w c 6 + 1 else if x = a ∧ (s = 7 ∨ s = 8 ∨ s = 9 ∨ s = 10) then 0 else wI w x s) ∧
  (∀ x s, s ≠ 3 → s ≠ 4 → s ≠ 5 → wR w' x s = wR w x s) ∧
  (∀ x, wR w' x 3 = if x = a then some c else wR w x 3) ∧
  (∀ x, wR w' x 4 = if x = a then La else if La = none ∧ x = c then some a else wR w x 4) ∧
  (∀ x, wR w' x 5 = if x = c then some a else if La = some x then some a else if x = a then none else wR w x 5)
theorem is_eq {w u : Wd} (h1 : wL u = wL w) (h2 : wK u = wK w) {x ci : Nat} (h : bw_is w x ci) : bw_is u x ci := ⟨by rw [h1]; exact h.1, by rw [h2]; exact h.2⟩
theorem C_startOn {e0 mi c a : Nat} {w : Wd} {La : Option Nat} {Q : Wd → Prop} (ha : bw_is w a 2)
    (hQ : ∀ u, (wL u = wL w ∧ wK u = wK w ∧ wN u = wN w ∧ wJ u = wJ w) → (∀ x s, wI u x s = if x = a ∧ (s = 7 ∨ s = 8 ∨ s = 9 ∨ s = 10) then 0 else wI w x s) →
      (∀ x s, wR u x s = if x = a ∧ s = 5 then none else if x = a ∧ s = 4 then La else if x = a ∧ s = 3 then some c else wR w x s) → Q u) : wp_It_startOn e0 mi a (some c) La w Q := by
  unfold wp_It_startOn wp_It_forgetWay
  refine ⟨ha, is_eq (by rw [pL_I, pL_I, pL_R, pL_R, pL_R]) (by rw [pK_I, pK_I, pK_R, pK_R, pK_R]) ha, hQ _ ⟨?_, ?_, ?_, ?_⟩ (fun x s => ?_) (fun x s => ?_)⟩
  · rw [pL_I, pL_I, pL_I, pL_I, pL_R, pL_R, pL_R]
  · rw [pK_I, pK_I, pK_I, pK_I, pK_R, pK_R, pK_R]
  · rw [pN_I, pN_I, pN_I, pN_I, pN_R, pN_R, pN_R]
  · rw [pJ_I, pJ_I, pJ_I, pJ_I, pJ_R, pJ_R, pJ_R]
  · rw [pI_I, pI_I, pI_I, pI_I, pI_R, pI_R, pI_R]
    by_cases hx : x = a
    · subst hx
      by_cases h10 : s = 10
      · simp [h10]
      · by_cases h9 : s = 9
        · simp [h9]
        · by_cases h8 : s = 8
          · simp [h8]
          · by_cases h7 : s = 7
            · simp [h7]
            · simp [h7, h8, h9, h10]
    · simp [hx]
  · rw [pR_I, pR_I, pR_I, pR_I, pR_R, pR_R, pR_R]
theorem C_takeOn {e0 mi c a : Nat} {w : Wd} {La : Option Nat} {Q : Wd → Prop} (ha : bw_is w a 2) (hc : bw_is w c 0) (hL : wR w c 5 = La) (hL2 : ∀ x, La = some x → bw_is w x 2 ∧ x ≠ a)
    (hQ : ∀ w', takG w w' c a La → Q w') : wp_Bt_takeOn e0 mi c (some a) w Q := by
  have hca : c ≠ a := is_ne hc ha (by decide)
  have hcL : ∀ x, La = some x → x ≠ c := fun x hx => is_ne (hL2 x hx).1 hc (by decide)
  unfold wp_Bt_takeOn
  rw [hL]
  refine ⟨hc, a, rfl, ha, C_startOn ha (fun u eL I1 R1 => ?_)⟩
  have ic : bw_is u c 0 := is_eq eL.1 eL.2.1 hc
  have u5 : wR u c 5 = La := by
    rw [R1, if_neg (fun z => hca z.1), if_neg (fun z => hca z.1), if_neg (fun z => hca z.1), hL]
  rw [u5]
  have T : ∀ v : Wd, wL v = wL u ∧ wK v = wK u ∧ wN v = wN u ∧ wJ v = wJ u → wI v = wI u → (∀ x s, wR v x s = if La = some x ∧ s = 5 then some a else if La = none ∧ x = c ∧ s = 4 then some a else wR u x s) → wb_Bt_takeOn_32 e0 mi Q c (some a) v := fun v hv hI hR => by
    unfold wb_Bt_takeOn_32
    have icv : bw_is v c 0 := is_eq hv.1 hv.2.1 ic
    refine ⟨icv, hQ _ ⟨hv.1.trans eL.1, hv.2.1.trans eL.2.1, hv.2.2.1.trans eL.2.2.1, hv.2.2.2.trans eL.2.2.2, fun x s => ?_, fun x s s3 s4 s5 => ?_, fun x => ?_, fun x => ?_, fun x => ?_⟩⟩
    · rw [pI_I, pI_R, hI]
      by_cases hx : x = c ∧ s = 6
      · rw [if_pos hx, if_pos hx, I1, if_neg (fun z => hca z.1)]
      · rw [if_neg hx, if_neg hx, I1]
    · rw [pR_I, pR_R, if_neg (fun z => s5 z.2), hR, if_neg (fun z => s5 z.2), if_neg (fun z => s4 z.2.2), R1, if_neg (fun z => s5 z.2), if_neg (fun z => s4 z.2), if_neg (fun z => s3 z.2)]
    · have q1 : ¬ (x = c ∧ (3 : Nat) = 5) := fun z => absurd z.2 (by decide)
      have q2 : ¬ (La = some x ∧ (3 : Nat) = 5) := fun z => absurd z.2 (by decide)
      have q3 : ¬ (La = none ∧ x = c ∧ (3 : Nat) = 4) := fun z => absurd z.2.2 (by decide)
      have q4 : ¬ (x = a ∧ (3 : Nat) = 5) := fun z => absurd z.2 (by decide)
      have q5 : ¬ (x = a ∧ (3 : Nat) = 4) := fun z => absurd z.2 (by decide)
      rw [pR_I, pR_R, if_neg q1, hR, if_neg q2, if_neg q3, R1, if_neg q4, if_neg q5]
      by_cases hx : x = a
      · rw [if_pos ⟨hx, rfl⟩, if_pos hx]
      · rw [if_neg (fun z => hx z.1), if_neg hx]
    · have q1 : ¬ (x = c ∧ (4 : Nat) = 5) := fun z => absurd z.2 (by decide)
      have q2 : ¬ (La = some x ∧ (4 : Nat) = 5) := fun z => absurd z.2 (by decide)
      have q4 : ¬ (x = a ∧ (4 : Nat) = 5) := fun z => absurd z.2 (by decide)
      rw [pR_I, pR_R, if_neg q1, hR, if_neg q2, R1, if_neg q4]
      by_cases hx : x = a
      · have q3 : ¬ (La = none ∧ x = c ∧ (4 : Nat) = 4) := fun z => hca (z.2.1.symm.trans hx)
        rw [if_neg q3, if_pos ⟨hx, rfl⟩, if_pos hx]
      · have q5 : ¬ (x = a ∧ (4 : Nat) = 4) := fun z => hx z.1
        have q6 : ¬ (x = a ∧ (4 : Nat) = 3) := fun z => hx z.1
        rw [if_neg q5, if_neg q6, if_neg hx]
        by_cases hn : La = none ∧ x = c
        · rw [if_pos ⟨hn.1, hn.2, rfl⟩, if_pos hn]
        · rw [if_neg (show ¬ (La = none ∧ x = c ∧ (4 : Nat) = 4) from fun z => hn ⟨z.1, z.2.1⟩), if_neg hn]
    · rw [pR_I, pR_R, hR, R1]
      by_cases hx : x = c
      · rw [if_pos ⟨hx, rfl⟩, if_pos hx]
      · rw [if_neg (show ¬ (x = c ∧ (5 : Nat) = 5) from fun z => hx z.1), if_neg hx]
        by_cases hl : La = some x
        · rw [if_pos ⟨hl, rfl⟩, if_pos hl]
        · rw [if_neg (show ¬ (La = some x ∧ (5 : Nat) = 5) from fun z => hl z.1), if_neg hl, if_neg (show ¬ (La = none ∧ x = c ∧ (5 : Nat) = 4) from fun z => hx z.2.1)]
          by_cases hxa : x = a
          · rw [if_pos ⟨hxa, rfl⟩, if_pos hxa]
          · rw [if_neg (show ¬ (x = a ∧ (5 : Nat) = 5) from fun z => hxa z.1), if_neg (show ¬ (x = a ∧ (5 : Nat) = 4) from fun z => hxa z.1), if_neg (show ¬ (x = a ∧ (5 : Nat) = 3) from fun z => hxa z.1), if_neg hxa]
  refine ⟨ic, fun z => ?_, fun z => ?_⟩
  · obtain ⟨x, hx⟩ := opt_ne z
    refine ⟨x, hx, is_eq eL.1 eL.2.1 (hL2 x hx).1, T _ ⟨rfl, rfl, rfl, rfl⟩ rfl (fun y s => ?_)⟩
    rw [pR_R]
    by_cases hy : y = x ∧ s = 5
    · rw [if_pos hy, if_pos ⟨by rw [hx, hy.1], hy.2⟩]
    · rw [if_neg hy, if_neg (show ¬ (La = some y ∧ s = 5) from fun q => hy ⟨by have := q.1; rw [hx] at this; exact (Option.some.inj this).symm, q.2⟩), if_neg (show ¬ (La = none ∧ y = c ∧ s = 4) from fun q => z q.1)]
  · refine T _ ⟨rfl, rfl, rfl, rfl⟩ rfl (fun y s => ?_)
    rw [pR_R, if_neg (show ¬ (La = some y ∧ s = 5) from fun q => by rw [z] at q; cases q.1)]
    by_cases hy : y = c ∧ s = 4
    · rw [if_pos hy, if_pos ⟨z, hy⟩]
    · rw [if_neg hy, if_neg (show ¬ (La = none ∧ y = c ∧ s = 4) from fun q => hy q.2)]
theorem prevO_app (l : List Nat) (i k : Nat) (h : k ≤ l.length) : prevO (l ++ [i]) k = prevO l k := by
  unfold prevO
  by_cases hk : k = 0
  · rw [if_pos hk, if_pos hk]
  · rw [if_neg hk, if_neg hk, List.getElem?_append_left (by omega)]
theorem takG_links {P : Nat → Nat → Nat} {w w' : Wd} {c i : Nat} {l : List Nat} (hg : takG w w' c (P 1 i) (l.getLast?.map (P 1))) (hn : l.Nodup) (hinj : ∀ a ∈ l, ∀ b ∈ l, P 1 a = P 1 b → a = b) (hi : ∀ a ∈ l, P 1 a ≠ P 1 i) (hc : ∀ a ∈ l, P 1 a ≠ c) (hic : P 1 i ≠ c)
    (hl : ∀ k j, l[k]? = some j → wR w (P 1 j) 4 = (prevO l k).map (P 1) ∧ wR w (P 1 j) 5 = l[k + 1]?.map (P 1)) :
    ∀ k j, (l ++ [i])[k]? = some j → wR w' (P 1 j) 4 = (prevO (l ++ [i]) k).map (P 1) ∧ wR w' (P 1 j) 5 = (l ++ [i])[k + 1]?.map (P 1) := by
  intro k j hk
  obtain ⟨-, -, -, -, -, -, -, g4, g5⟩ := hg
  rcases app_get hk with ⟨hk1, rfl⟩ | ⟨hk1, hk2⟩
  · rw [g4, g5, if_pos rfl, if_neg hic, if_pos rfl, prevO_app _ _ _ (by omega), List.getElem?_eq_none (by simp; omega)]
    refine ⟨?_, ?_⟩
    · congr 1
      unfold prevO
      by_cases h0 : k = 0
      · rw [if_pos h0]
        have : l = [] := List.length_eq_zero_iff.mp (by omega)
        rw [this]; rfl
      · rw [if_neg h0, List.getLast?_eq_getElem?, hk1]
    · rw [if_neg (fun z => by
        cases hx : l.getLast? with
        | none => rw [hx] at z; cases z
        | some x => rw [hx] at z; exact hi x (List.mem_of_getLast? hx) (Option.some.inj z))]
      rfl
  · have hjm := List.mem_of_getElem? hk2
    have hlt := (List.getElem?_eq_some_iff.mp hk2).1
    have hold := hl k j hk2
    refine ⟨?_, ?_⟩
    · rw [g4, if_neg (hi j hjm), if_neg (fun z => hc j hjm z.2), prevO_app _ _ _ (by omega)]
      exact hold.1
    · rw [g5, if_neg (hc j hjm), if_neg (show ¬ P 1 j = P 1 i from hi j hjm)]
      by_cases hla : l.getLast?.map (P 1) = some (P 1 j)
      · rw [if_pos hla]
        have hlj : l.getLast? = some j := by
          cases hx : l.getLast? with
          | none => rw [hx] at hla; cases hla
          | some x => rw [hx] at hla; rw [hinj x (List.mem_of_getLast? hx) j hjm (Option.some.inj hla)]
        rw [List.getLast?_eq_getElem?] at hlj
        have hke : k = l.length - 1 := by
          rcases Nat.lt_trichotomy k (l.length - 1) with z | z | z
          · exact absurd hk2 (nodup_first hn hlj k z)
          · exact z
          · omega
        rw [show k + 1 = l.length by omega, List.getElem?_append_right (Nat.le_refl _), Nat.sub_self]
        rfl
      · rw [if_neg hla, hold.2]
        have hk3 : k + 1 < l.length := by
          rcases Nat.lt_or_ge (k + 1) l.length with z | z
          · exact z
          · exfalso
            apply hla
            rw [List.getLast?_eq_getElem?, show l.length - 1 = k by omega, hk2]
            rfl
        rw [List.getElem?_append_left hk3]
theorem takG_ends {P : Nat → Nat → Nat} {w w' : Wd} {c i : Nat} {l : List Nat} (hg : takG w w' c (P 1 i) (l.getLast?.map (P 1))) (hic : c ≠ P 1 i) (h4 : wR w c 4 = l[0]?.map (P 1)) : wR w' c 4 = (l ++ [i])[0]?.map (P 1) ∧ wR w' c 5 = (l ++ [i]).getLast?.map (P 1) := by
  obtain ⟨-, -, -, -, -, -, -, g4, g5⟩ := hg
  refine ⟨?_, ?_⟩
  · rw [g4, if_neg hic]
    cases l with
    | nil => rw [if_pos ⟨rfl, rfl⟩]; rfl
    | cons x t =>
      rw [if_neg (fun z => by
        have := z.1
        cases hx : (x :: t).getLast? with
        | none => rw [List.getLast?_eq_none_iff] at hx; cases hx
        | some y => rw [hx] at this; cases this), h4]
      rfl
  · rw [g5, if_pos rfl]
    simp
end
section
/-! THE CLASS: the state behind leave, takeOn -/
theorem c1_eq {S S' : St} {w : Wd} {q : Nat} {P : Nat → Nat → Nat} (h : c1 S w q P) (e1 : mm S' 1 = mm S 1) (e2 : mm S' 2 = mm S 2) (e30 : mm S' 30 = mm S 30) : c1 S' w q P := by
  unfold c1 at *
  rw [e1, e2, e30]; exact h
theorem c2_eq {e0 : Nat} {S S' : St} {w : Wd} {P : Nat → Nat → Nat} {LE LW : List (Nat × Ed)} (h : c2 e0 S w P LE LW) (hl : ∀ k, lmx S' k = lmx S k) (hx : ∀ k, lsx S' P LE LW k = lsx S P LE LW k) : c2 e0 S' w P LE LW :=
  ⟨fun k hk => by rw [hl, hx]; exact h.1 k hk, h.2.1, fun j k hj hk hn z1 z2 => h.2.2 j k hj hk hn (by rw [← hl]; exact z1) (by rw [← hl]; exact z2)⟩
theorem c4_eq {S S' : St} {w : Wd} {P : Nat → Nat → Nat} (h : c4 S w P) (hn : nB S' = nB S) (e7 : mm S' 7 = mm S 7) (e8 : mm S' 8 = mm S 8) (e9 : mm S' 9 = mm S 9) : c4 S' w P := by
  unfold c4 at *
  rw [hn, e7, e8, e9]; exact h
theorem c7_eq {S S' : St} {w : Wd} {P : Nat → Nat → Nat} (h : c7 S w P) (hn : nB S' = nB S) (hs : nS S' = nS S) (e22 : mm S' 22 = mm S 22) (e23 : mm S' 23 = mm S 23) (e24 : mm S' 24 = mm S 24) : c7 S' w P := by
  unfold c7 at *
  rw [hn, hs, e22, e23, e24]; exact h
theorem c8_eq {S S' : St} {w : Wd} {LE LW : List (Nat × Ed)} (h : c8 S w LE LW) (he : eds S' = eds S) (hw : wts S' = wts S) : c8 S' w LE LW := by
  unfold c8 at *
  rw [he, hw]; exact h
theorem letG_kp {w w' : Wd} {c a1 : Nat} {Ah Bh : Option Nat} (h : letG w w' c a1 Ah Bh) : Kp (fun x => x = c ∨ x = a1 ∨ Ah = some x ∨ Bh = some x) w w' := by
  obtain ⟨g1, g2, g3, g4, gI, gR, gR4, gR5⟩ := h
  intro x hx
  refine ⟨by rw [g1]; exact hx, by rw [g2], by rw [g3], fun hn => ⟨?_, ?_, by rw [g4]⟩⟩
  · funext s; rw [gI, if_neg (fun z => hn (Or.inl z.1))]
  · funext s
    by_cases s4 : s = 4
    · rw [s4, gR4, if_neg (fun z => hn (Or.inr (Or.inl z))), if_neg (fun z => hn (Or.inr (Or.inr (Or.inr z)))), if_neg (fun z => hn (Or.inl z.2))]
    · by_cases s5 : s = 5
      · rw [s5, gR5, if_neg (fun z => hn (Or.inr (Or.inl z))), if_neg (fun z => hn (Or.inr (Or.inr (Or.inl z)))), if_neg (fun z => hn (Or.inl z.2))]
      · exact gR x s s4 s5
theorem takG_kp {w w' : Wd} {c a : Nat} {La : Option Nat} (h : takG w w' c a La) : Kp (fun x => x = c ∨ x = a ∨ La = some x) w w' := by
  obtain ⟨g1, g2, g3, g4, gI, gR, gR3, gR4, gR5⟩ := h
  intro x hx
  refine ⟨by rw [g1]; exact hx, by rw [g2], by rw [g3], fun hn => ⟨?_, ?_, by rw [g4]⟩⟩
  · funext s; rw [gI, if_neg (fun z => hn (Or.inl z.1)), if_neg (fun z => hn (Or.inr (Or.inl z.1)))]
  · funext s
    by_cases s3 : s = 3
    · rw [s3, gR3, if_neg (fun z => hn (Or.inr (Or.inl z)))]
    · by_cases s4 : s = 4
      · rw [s4, gR4, if_neg (fun z => hn (Or.inr (Or.inl z))), if_neg (fun z => hn (Or.inl z.2))]
      · by_cases s5 : s = 5
        · rw [s5, gR5, if_neg (fun z => hn (Or.inl z)), if_neg (fun z => hn (Or.inr (Or.inr z))), if_neg (fun z => hn (Or.inr (Or.inl z)))]
        · exact gR x s s3 s4 s5
section CL
variable {e0 mi q : Nat} {P : Nat → Nat → Nat} {S : St} {w : Wd} {LE LW : List (Nat × Ed)}
theorem prev_mem {l : List Nat} {p x : Nat} (h : prevO l p = some x) : x ∈ l := by
  unfold prevO at h
  by_cases hp : p = 0
  · rw [if_pos hp] at h; cases h
  · rw [if_neg hp] at h; exact List.mem_of_getElem? h
/-- letGo of the item at the place p of the row b: the rows behind it -/
theorem C_let {b p i : Nat} {Q : Wd → Prop} (R : RC e0 S w q P LE LW) (hS : okS S) (hp : (rr S b)[p]? = some i)
    (hQ : ∀ w', c3 (ur S b ((rr S b).eraseIdx p)) w' P → c5 S w' P → c6 (ur S b ((rr S b).eraseIdx p)) w' P → (∀ x, x ≠ P 0 b → wI w' x = wI w x) → Kp (fun x => x = P 0 b ∨ ∃ j, j ∈ rr S b ∧ x = P 1 j) w w' → wL w' = wL w → Q w') : wp_Bt_letGo e0 mi (P 0 b) (some (P 1 i)) w Q := by
  have him := List.mem_of_getElem? hp
  obtain ⟨hb, i1, i2', i3, i4, i5, b8, i61⟩ := in_row hS him
  obtain ⟨r1, r2, r3, r4, r5, r6, r7, r8⟩ := R
  have hit := fun j (hj : j ∈ rr S b) => in_row hS hj
  have is2 := fun j (hj : j ∈ rr S b) => (r5.1 j (hit j hj).2.1 (hit j hj).2.2.1).1
  have inj : ∀ a ∈ rr S b, ∀ c ∈ rr S b, P 1 a = P 1 c → a = c := fun a ha c hc => r5.2 a c (hit a ha).2.1 (hit a ha).2.2.1 (hit c hc).2.1 (hit c hc).2.2.1
  have hbc := (r3.1 b hb).1
  have nc : ∀ a ∈ rr S b, P 1 a ≠ P 0 b := fun a ha => is_ne (is2 a ha) hbc (by decide)
  have lk := r6 b p i hp
  have hlt := (List.getElem?_eq_some_iff.mp hp).1
  refine C_letGo (is2 i him) hbc lk.1 lk.2 (fun x hx => ?_) (fun x hx => ?_) (fun w' hg => ?_)
  · cases hy : prevO (rr S b) p with
    | none => rw [hy] at hx; cases hx
    | some y =>
      rw [hy] at hx
      cases hx
      have hym := prev_mem hy
      refine ⟨is2 y hym, fun z => ?_⟩
      have hyi := inj y hym i him z
      unfold prevO at hy
      by_cases hp0 : p = 0
      · rw [if_pos hp0] at hy; cases hy
      · rw [if_neg hp0, hyi] at hy
        exact nodup_first (hS.2.2.2.1 b) hp (p - 1) (by omega) hy
  · cases hy : (rr S b)[p + 1]? with
    | none => rw [hy] at hx; cases hx
    | some y =>
      rw [hy] at hx
      cases hx
      have hym := List.mem_of_getElem? hy
      refine ⟨is2 y hym, fun z => ?_⟩
      have hyi := inj y hym i him z
      rw [hyi] at hy
      exact nodup_first (hS.2.2.2.1 b) hy p (by omega) hp
  · have links := letG_links hg (hS.2.2.2.1 b) hp inj nc (fun k j hk => r6 b k j hk)
    have ends := letG_ends hg hp nc (r3.1 b hb).2.2.2.2.2.2.1 (r3.1 b hb).2.2.2.2.2.2.2.1
    have K : Kp (fun x => x = P 0 b ∨ ∃ j, j ∈ rr S b ∧ x = P 1 j) w w' := (letG_kp hg).mono (fun x _ hx => by
      rcases hx with z | z | z | z
      · exact Or.inl z
      · exact Or.inr ⟨i, him, z⟩
      · cases hy : prevO (rr S b) p with
        | none => rw [hy] at z; cases z
        | some y => rw [hy] at z; cases z; exact Or.inr ⟨y, prev_mem hy, rfl⟩
      · cases hy : (rr S b)[p + 1]? with
        | none => rw [hy] at z; cases z
        | some y => rw [hy] at z; cases z; exact Or.inr ⟨y, List.mem_of_getElem? hy, rfl⟩)
    have hL := hg.1
    have hgI := hg.2.2.2.2.1
    have hgR := hg.2.2.2.2.2.1
    have hI : ∀ x, x ≠ P 0 b → wI w' x = wI w x := fun x hx => by funext s; rw [hgI, if_neg (fun z => hx z.1)]
    refine hQ w' ⟨fun c hc => ?_, r3.2⟩ ⟨fun j j1 j2 => ?_, r5.2⟩ (fun c k j hk => ?_) hI K hL
    · replace hc : c < nB S := hc
      rw [mm_ur, rr_ur]
      by_cases hcb : c = b
      · subst hcb
        obtain ⟨q0, q1, q2, q3, q4, q5, q6, q7, q8, q9⟩ := r3.1 c hc
        rw [if_pos rfl]
        refine ⟨K.is q0, ?_, ?_, ?_, ?_, ?_, ends.1, ends.2, ?_, ?_⟩
        · rw [hgI, if_neg (fun z => by simp at z)]; exact q1
        · rw [hgI, if_neg (fun z => by simp at z)]; exact q2
        · rw [hgI, if_neg (fun z => by simp at z)]; exact q3
        · rw [hgI, if_neg (fun z => by simp at z)]; exact q4
        · rw [hgI, if_pos ⟨rfl, rfl⟩, q5, List.length_eraseIdx, if_pos hlt]
          have hle : (rr S c).length = ((rr S c).length - 1) + 1 := by omega
          rw [hle, nI_pred]; simp
        · rw [hgR _ _ (by decide) (by decide)]; exact q8
        · rw [hgR _ _ (by decide) (by decide)]; exact q9
      · have h3c := r3.1 c hc
        have hne : P 0 c ≠ P 0 b := fun z => hcb (r3.2 c b hc hb z)
        have hX : ¬ (P 0 c = P 0 b ∨ ∃ j, j ∈ rr S b ∧ P 0 c = P 1 j) := fun z => by
          rcases z with z | ⟨j, hj, z⟩
          · exact hne z
          · exact absurd z (is_ne h3c.1 (is2 j hj) (by decide))
        rw [if_neg hcb, K.I h3c.1.1 hX, K.R h3c.1.1 hX]
        exact ⟨K.is h3c.1, h3c.2⟩
    · have h5j := r5.1 j j1 j2
      rw [hI (P 1 j) (is_ne h5j.1 hbc (by decide)), hgR _ 3 (by decide) (by decide)]
      exact ⟨K.is h5j.1, h5j.2⟩
    · rw [rr_ur] at hk ⊢
      by_cases hcb : c = b
      · rw [if_pos hcb] at hk ⊢
        exact links k j hk
      · rw [if_neg hcb] at hk ⊢
        have hjm := List.mem_of_getElem? hk
        have hj := in_row hS hjm
        have h2j := (r5.1 j hj.2.1 hj.2.2.1).1
        have hX : ¬ (P 1 j = P 0 b ∨ ∃ y, y ∈ rr S b ∧ P 1 j = P 1 y) := fun z => by
          rcases z with z | ⟨y, hy, z⟩
          · exact absurd z (is_ne h2j hbc (by decide))
          · have := r5.2 j y hj.2.1 hj.2.2.1 (hit y hy).2.1 (hit y hy).2.2.1 z
            rw [this] at hjm
            exact hcb (ok_row hS hjm hy)
        rw [K.R h2j.1 hX]
        exact r6 c k j hk
/-- an item leaves for no belt -/
theorem C_leave {b p i : Nat} {v : Int32} {Q : Wd → Prop} (R : RC e0 S w q P LE LW) (hS : okS S) (hp : (rr S b)[p]? = some i) (hv : ¬ v = 0)
    (hQ : ∀ w', RC e0 (um (ur S b ((rr S b).eraseIdx p)) 13 i v) w' q P LE LW → FrC w w' → wL w' = wL w → Q w') : wp_It_leave e0 mi (P 1 i) v w Q := by
  have him := List.mem_of_getElem? hp
  obtain ⟨hb, i1, i2', i3, i4, i5, b8, i61⟩ := in_row hS him
  have hR := R
  obtain ⟨r1, r2, r3, r4, r5, r6, r7, r8⟩ := R
  have h5i := r5.1 i i1 i2'
  have hbc := (r3.1 b hb).1
  have hw3 := h5i.2.2.2.2.2.1 b hb i4
  unfold wp_It_leave
  refine ⟨h5i.1, ?_⟩
  rw [hw3]
  refine ⟨fun z => (by cases z), fun _ => ⟨P 0 b, rfl, hbc, C_let hR hS hp (fun w6 k3 k5 k6 kI K kL => ?_)⟩⟩
  unfold wb_It_leave_15 wp_It_forgetWay
  have i6 := (k5.1 i i1 i2').1
  have kN : ∀ a ci, bw_is w a ci → ci ≠ 0 → ci ≠ 2 → ¬ (a = P 0 b ∨ ∃ j, j ∈ rr S b ∧ a = P 1 j) := fun a ci ha c0 c2' z => by
    rcases z with z | ⟨j, hj, z⟩
    · exact absurd z (is_ne ha hbc c0)
    · have hj' := in_row hS hj
      exact absurd z (is_ne ha (r5.1 j hj'.2.1 hj'.2.2.1).1 c2')
  have K' : Kp (fun x => x = P 0 b ∨ ∃ j, j ∈ rr S b ∧ x = P 1 j) w (sI (sI (sI w6 (P 1 i) 6 v) (P 1 i) 9 0) (P 1 i) 10 0) := ((K.sI (fun _ => Or.inr ⟨i, him, rfl⟩)).sI (fun _ => Or.inr ⟨i, him, rfl⟩)).sI (fun _ => Or.inr ⟨i, him, rfl⟩)
  have e13 : ∀ k, k ≠ 13 → mm (um (ur S b ((rr S b).eraseIdx p)) 13 i v) k = mm S k := fun k hk => by rw [mm_um_ne _ _ _ hk, mm_ur]
  have wIx : ∀ x s, x ≠ P 1 i → wI (sI (sI (sI w6 (P 1 i) 6 v) (P 1 i) 9 0) (P 1 i) 10 0) x s = wI w6 x s := fun x s hx => by rw [pI_I, if_neg (fun z => hx z.1), pI_I, if_neg (fun z => hx z.1), pI_I, if_neg (fun z => hx z.1)]
  refine ⟨i6, i6, hQ _ ⟨c1_eq (c1_kp r1 K' (fun a ha => kN a 5 ha (by decide) (by decide))) (e13 1 (by decide)) (e13 2 (by decide)) (e13 30 (by decide)), c2_eq (c2_kp r2 K' (fun a ha => kN a 7 ha (by decide) (by decide)) (fun a ha => kN a 100 ha (by decide) (by decide))) (fun _ => rfl) (fun _ => rfl), ⟨fun c hc => ?_, k3.2⟩, c4_eq (c4_kp r4 K' (fun a ha => kN a 4 ha (by decide) (by decide))) rfl (e13 7 (by decide)) (e13 8 (by decide)) (e13 9 (by decide)), ⟨fun j j1 j2 => ?_, r5.2⟩, fun c k j hk => ?_, c7_eq (c7_kp r7 K' (fun a ha => kN a 3 ha (by decide) (by decide))) rfl rfl (e13 22 (by decide)) (e13 23 (by decide)) (e13 24 (by decide)), c8_eq (c8_kp r8 K' (fun a ha => kN a 1 ha (by decide) (by decide))) rfl rfl⟩ (K'.frC (fun a ha hx => ?_)) kL⟩
  · have h3c := k3.1 c hc
    have hne : P 0 c ≠ P 1 i := is_ne h3c.1 i6 (by decide)
    rw [e13 4 (by decide), e13 5 (by decide), e13 6 (by decide), rr_um]
    rw [mm_ur] at h3c
    obtain ⟨q0, q1, q2, q3, q4, q5, q6, q7, q8, q9⟩ := h3c
    refine ⟨q0, ?_, ?_, ?_, ?_, ?_, q6, q7, q8, q9⟩
    · rw [wIx _ _ hne]; exact q1
    · rw [wIx _ _ hne]; exact q2
    · rw [wIx _ _ hne]; exact q3
    · rw [wIx _ _ hne]; exact q4
    · rw [wIx _ _ hne]; exact q5
  · have h5j := k5.1 j j1 j2
    rw [e13 14 (by decide), e13 15 (by decide), e13 16 (by decide), e13 17 (by decide), e13 18 (by decide), e13 19 (by decide), e13 20 (by decide)]
    by_cases hji : j = i
    · subst hji
      obtain ⟨q0, q1, q2, q3, q4, q5, q6⟩ := h5j
      refine ⟨q0, ?_, ?_, ?_, ?_, q5, fun z => absurd (by rw [mm_um, if_pos ⟨rfl, rfl⟩] at z; exact z) hv⟩
      · rw [pI_I, if_neg (fun z => by simp at z), pI_I, if_neg (fun z => by simp at z), pI_I, if_neg (fun z => by simp at z)]; exact q1
      · rw [pI_I, if_neg (fun z => by simp at z), pI_I, if_neg (fun z => by simp at z), pI_I, if_neg (fun z => by simp at z)]; exact q2
      · rw [pI_I, if_neg (fun z => by simp at z), pI_I, if_neg (fun z => by simp at z), pI_I, if_neg (fun z => by simp at z)]; exact q3
      · rw [pI_I, if_neg (fun z => by simp at z), pI_I, if_neg (fun z => by simp at z), pI_I, if_pos ⟨rfl, rfl⟩, mm_um, if_pos ⟨rfl, rfl⟩]
    · have hne : P 1 j ≠ P 1 i := fun z => hji (r5.2 j i j1 j2 i1 i2' z)
      rw [mm_um, if_neg (fun z => hji z.2), mm_ur]
      obtain ⟨q0, q1, q2, q3, q4, q5, q6⟩ := h5j
      refine ⟨q0, ?_, ?_, ?_, ?_, q5, fun z => ?_⟩
      · rw [wIx _ _ hne]; exact q1
      · rw [wIx _ _ hne]; exact q2
      · rw [wIx _ _ hne]; exact q3
      · rw [wIx _ _ hne]; exact q4
      · obtain ⟨z7, z8, z9, z10⟩ := q6 z
        rw [wIx _ _ hne, wIx _ _ hne, wIx _ _ hne, wIx _ _ hne]
        exact ⟨z7, z8, z9, z10⟩
  · exact k6 c k j hk
  · rcases hx with z | ⟨j, hj, z⟩
    · rw [z, hbc.2]; unfold kM; omega
    · have hj' := in_row hS hj
      rw [z, (r5.1 j hj'.2.1 hj'.2.2.1).1.2]; unfold kM; omega
end CL
end
section
/-! THE CLASS: the state behind takeOn; a list grows -/
theorem mm15_come (S : St) (j b a : Nat) : mm (comeS S j b) 15 a = if a = j then 0 else mm S 15 a := by
  unfold comeS
  rw [mm_ur, mm_um_ne _ _ _ (by decide), mm_um_ne _ _ _ (by decide), mm_um_ne _ _ _ (by decide), mm_um]
  by_cases h : a = j
  · rw [if_pos ⟨rfl, h⟩, if_pos h]
  · rw [if_neg (fun z => h z.2), if_neg h, mm_um_ne _ _ _ (by decide)]
theorem mm18_come (S : St) (j b a : Nat) : mm (comeS S j b) 18 a = if a = j then 0 else mm S 18 a := by
  unfold comeS
  rw [mm_ur, mm_um_ne _ _ _ (by decide), mm_um]
  by_cases h : a = j
  · rw [if_pos ⟨rfl, h⟩, if_pos h]
  · rw [if_neg (fun z => h z.2), if_neg h, mm_um_ne _ _ _ (by decide), mm_um_ne _ _ _ (by decide), mm_um_ne _ _ _ (by decide)]
theorem mm19_come (S : St) (j b a : Nat) : mm (comeS S j b) 19 a = if a = j then 0 else mm S 19 a := by
  unfold comeS
  rw [mm_ur, mm_um]
  by_cases h : a = j
  · rw [if_pos ⟨rfl, h⟩, if_pos h]
  · rw [if_neg (fun z => h z.2), if_neg h, mm_um_ne _ _ _ (by decide), mm_um_ne _ _ _ (by decide), mm_um_ne _ _ _ (by decide), mm_um_ne _ _ _ (by decide)]
/-- all of the items but where the item i is -/
def c5x (S : St) (w : Wd) (P : Nat → Nat → Nat) (i : Nat) : Prop :=
  (∀ j, 1 ≤ j → j ≤ nT S → bw_is w (P 1 j) 2 ∧ wI w (P 1 j) 0 = nI j ∧ wI w (P 1 j) 1 = mm S 16 j ∧ wI w (P 1 j) 2 = mm S 20 j ∧ wI w (P 1 j) 6 = mm S 13 j ∧ (j ≠ i → (∀ b, b < nB S → mm S 14 j = nI b → wR w (P 1 j) 3 = some (P 0 b)) ∧
    (mm S 13 j = 0 → wI w (P 1 j) 7 = mm S 15 j ∧ wI w (P 1 j) 8 = mm S 19 j ∧ wI w (P 1 j) 9 = mm S 17 j ∧ wI w (P 1 j) 10 = mm S 18 j))) ∧ (∀ a j, 1 ≤ a → a ≤ nT S → 1 ≤ j → j ≤ nT S → P 1 a = P 1 j → a = j)
theorem c5_x {S : St} {w : Wd} {P : Nat → Nat → Nat} (h : c5 S w P) (i : Nat) : c5x S w P i :=
  ⟨fun j j1 j2 => by
    obtain ⟨q0, q1, q2, q3, q4, q5, q6⟩ := h.1 j j1 j2
    exact ⟨q0, q1, q2, q3, q4, fun _ => ⟨q5, q6⟩⟩, h.2⟩
section CL
variable {e0 mi q : Nat} {P : Nat → Nat → Nat} {S : St} {w : Wd} {LE LW : List (Nat × Ed)}
theorem C_take {b i : Nat} {Q : Wd → Prop} (h1 : c1 S w q P) (h2 : c2 e0 S w P LE LW) (h3 : c3 S w P) (h4 : c4 S w P) (h5 : c5x S w P i) (h6 : c6 S w P) (h7 : c7 S w P) (h8 : c8 S w LE LW)
    (hr : ∀ c j, j ∈ rr S c → 1 ≤ j ∧ j ≤ nT S ∧ j ≠ i) (hnd : (rr S b).Nodup) (hdis : ∀ c, c ≠ b → ∀ j, j ∈ rr S c → j ∉ rr S b) (hb : b < nB S) (hb8 : nB S ≤ 8) (i1 : 1 ≤ i) (i2' : i ≤ nT S)
    (hQ : ∀ w', RC e0 (comeS S i b) w' q P LE LW → FrC w w' → wL w' = wL w → Q w') : wp_Bt_takeOn e0 mi (P 0 b) (some (P 1 i)) w Q := by
  have hbc := (h3.1 b hb).1
  have h5i := h5.1 i i1 i2'
  have is2 := fun c j (hj : j ∈ rr S c) => (h5.1 j (hr c j hj).1 (hr c j hj).2.1).1
  have inj : ∀ a ∈ rr S b, ∀ c ∈ rr S b, P 1 a = P 1 c → a = c := fun a ha c hc => h5.2 a c (hr b a ha).1 (hr b a ha).2.1 (hr b c hc).1 (hr b c hc).2.1
  have nei : ∀ a ∈ rr S b, P 1 a ≠ P 1 i := fun a ha z => (hr b a ha).2.2 (h5.2 a i (hr b a ha).1 (hr b a ha).2.1 i1 i2' z)
  have nc : ∀ a ∈ rr S b, P 1 a ≠ P 0 b := fun a ha => is_ne (is2 b a ha) hbc (by decide)
  have nic : P 1 i ≠ P 0 b := is_ne h5i.1 hbc (by decide)
  have h3b := h3.1 b hb
  refine C_takeOn h5i.1 hbc h3b.2.2.2.2.2.2.2.1 (fun x hx => ?_) (fun w' hg => ?_)
  · cases hy : (rr S b).getLast? with
    | none => rw [hy] at hx; cases hx
    | some y =>
      rw [hy] at hx
      cases hx
      exact ⟨is2 b y (List.mem_of_getLast? hy), nei y (List.mem_of_getLast? hy)⟩
  · have links := takG_links hg hnd inj nei nc nic (fun k j hk => h6 b k j hk)
    have ends := takG_ends hg nic.symm h3b.2.2.2.2.2.2.1
    have K : Kp (fun x => x = P 0 b ∨ x = P 1 i ∨ ∃ j, j ∈ rr S b ∧ x = P 1 j) w w' := (takG_kp hg).mono (fun x _ hx => by
      rcases hx with z | z | z
      · exact Or.inl z
      · exact Or.inr (Or.inl z)
      · cases hy : (rr S b).getLast? with
        | none => rw [hy] at z; cases z
        | some y => rw [hy] at z; cases z; exact Or.inr (Or.inr ⟨y, List.mem_of_getLast? hy, rfl⟩))
    have hL := hg.1
    have hgI := hg.2.2.2.2.1
    have hgR := hg.2.2.2.2.2.1
    have hgR3 := hg.2.2.2.2.2.2.1
    have kN : ∀ a ci, bw_is w a ci → ci ≠ 0 → ci ≠ 2 → ¬ (a = P 0 b ∨ a = P 1 i ∨ ∃ j, j ∈ rr S b ∧ a = P 1 j) := fun a ci ha c0 c2' z => by
      rcases z with z | z | ⟨j, hj, z⟩
      · exact absurd z (is_ne ha hbc c0)
      · exact absurd z (is_ne ha h5i.1 c2')
      · exact absurd z (is_ne ha (is2 b j hj) c2')
    have em : ∀ k, k ≠ 14 ∧ k ≠ 15 ∧ k ≠ 17 ∧ k ≠ 18 ∧ k ≠ 19 → mm (comeS S i b) k = mm S k := fun k hk => mm_come S i b hk
    refine hQ w' ⟨c1_eq (c1_kp h1 K (fun a ha => kN a 5 ha (by decide) (by decide))) (em 1 (by decide)) (em 2 (by decide)) (em 30 (by decide)), c2_eq (c2_kp h2 K (fun a ha => kN a 7 ha (by decide) (by decide)) (fun a ha => kN a 100 ha (by decide) (by decide))) (fun _ => rfl) (fun _ => rfl), ⟨fun c hc => ?_, h3.2⟩, c4_eq (c4_kp h4 K (fun a ha => kN a 4 ha (by decide) (by decide))) rfl (em 7 (by decide)) (em 8 (by decide)) (em 9 (by decide)), ⟨fun j j1 j2 => ?_, h5.2⟩, fun c k j hk => ?_, c7_eq (c7_kp h7 K (fun a ha => kN a 3 ha (by decide) (by decide))) rfl rfl (em 22 (by decide)) (em 23 (by decide)) (em 24 (by decide)), c8_eq (c8_kp h8 K (fun a ha => kN a 1 ha (by decide) (by decide))) rfl rfl⟩ (K.frC (fun a ha hx => ?_)) hL
    · replace hc : c < nB S := hc
      rw [em 4 (by decide), em 5 (by decide), em 6 (by decide), rr_come]
      by_cases hcb : c = b
      · subst hcb
        obtain ⟨q0, q1, q2, q3, q4, q5, q6, q7, q8, q9⟩ := h3.1 c hc
        rw [if_pos rfl]
        refine ⟨K.is q0, ?_, ?_, ?_, ?_, ?_, ends.1, ends.2, ?_, ?_⟩
        · rw [hgI, if_neg (fun z => by simp at z), if_neg (fun z => nic z.1.symm)]; exact q1
        · rw [hgI, if_neg (fun z => by simp at z), if_neg (fun z => nic z.1.symm)]; exact q2
        · rw [hgI, if_neg (fun z => by simp at z), if_neg (fun z => nic z.1.symm)]; exact q3
        · rw [hgI, if_neg (fun z => by simp at z), if_neg (fun z => nic z.1.symm)]; exact q4
        · rw [hgI, if_pos ⟨rfl, rfl⟩, q5, nI_1]; simp
        · rw [hgR _ _ (by decide) (by decide) (by decide)]; exact q8
        · rw [hgR _ _ (by decide) (by decide) (by decide)]; exact q9
      · have h3c := h3.1 c hc
        have hne : P 0 c ≠ P 0 b := fun z => hcb (h3.2 c b hc hb z)
        have hX : ¬ (P 0 c = P 0 b ∨ P 0 c = P 1 i ∨ ∃ j, j ∈ rr S b ∧ P 0 c = P 1 j) := fun z => by
          rcases z with z | z | ⟨j, hj, z⟩
          · exact hne z
          · exact absurd z (is_ne h3c.1 h5i.1 (by decide))
          · exact absurd z (is_ne h3c.1 (is2 b j hj) (by decide))
        rw [if_neg hcb, K.I h3c.1.1 hX, K.R h3c.1.1 hX]
        exact ⟨K.is h3c.1, h3c.2⟩
    · obtain ⟨q0, q1, q2, q3, q4, q5⟩ := h5.1 j j1 j2
      have njc : P 1 j ≠ P 0 b := is_ne q0 hbc (by decide)
      rw [em 16 (by decide), em 20 (by decide), em 13 (by decide), mm14_come, mm15_come, mm17_come, mm18_come, mm19_come]
      by_cases hji : j = i
      · subst hji
        rw [if_pos rfl, if_pos rfl, if_pos rfl, if_pos rfl, if_pos rfl]
        refine ⟨K.is q0, ?_, ?_, ?_, ?_, fun c hc hcb => ?_, fun _ => ⟨?_, ?_, ?_, ?_⟩⟩
        · rw [hgI, if_neg (fun z => njc z.1), if_neg (fun z => by simp at z)]; exact q1
        · rw [hgI, if_neg (fun z => njc z.1), if_neg (fun z => by simp at z)]; exact q2
        · rw [hgI, if_neg (fun z => njc z.1), if_neg (fun z => by simp at z)]; exact q3
        · rw [hgI, if_neg (fun z => njc z.1), if_neg (fun z => by simp at z)]; exact q4
        · replace hc : c < nB S := hc
          rw [hgR3, if_pos rfl, (nI_eq (by omega) (by omega)).mp hcb]
        · rw [hgI, if_neg (fun z => njc z.1), if_pos ⟨rfl, by decide⟩]
        · rw [hgI, if_neg (fun z => njc z.1), if_pos ⟨rfl, by decide⟩]
        · rw [hgI, if_neg (fun z => njc z.1), if_pos ⟨rfl, by decide⟩]
        · rw [hgI, if_neg (fun z => njc z.1), if_pos ⟨rfl, by decide⟩]
      · have hne : P 1 j ≠ P 1 i := fun z => hji (h5.2 j i j1 j2 i1 i2' z)
        have e : ∀ s, wI w' (P 1 j) s = wI w (P 1 j) s := fun s => by rw [hgI, if_neg (fun z => njc z.1), if_neg (fun z => hne z.1)]
        rw [if_neg hji, if_neg hji, if_neg hji, if_neg hji, if_neg hji, e, e, e, e, e, e, e, e, hgR3, if_neg hne]
        exact ⟨K.is q0, q1, q2, q3, q4, (q5 hji).1, (q5 hji).2⟩
    · rw [rr_come] at hk ⊢
      by_cases hcb : c = b
      · rw [if_pos hcb] at hk ⊢
        exact links k j hk
      · rw [if_neg hcb] at hk ⊢
        have hjm := List.mem_of_getElem? hk
        have hX : ¬ (P 1 j = P 0 b ∨ P 1 j = P 1 i ∨ ∃ y, y ∈ rr S b ∧ P 1 j = P 1 y) := fun z => by
          rcases z with z | z | ⟨y, hy, z⟩
          · exact absurd z (is_ne (is2 c j hjm) hbc (by decide))
          · exact (hr c j hjm).2.2 (h5.2 j i (hr c j hjm).1 (hr c j hjm).2.1 i1 i2' z)
          · have := h5.2 j y (hr c j hjm).1 (hr c j hjm).2.1 (hr b y hy).1 (hr b y hy).2.1 z
            rw [this] at hjm
            exact hdis c hcb y hjm hy
        rw [K.R (is2 c j hjm).1 hX]
        exact h6 c k j hk
    · rcases hx with z | z | ⟨j, hj, z⟩
      · rw [z, hbc.2]; unfold kM; omega
      · rw [z, h5i.1.2]; unfold kM; omega
      · rw [z, (is2 b j hj).2]; unfold kM; omega
end CL
/-- the row of the list k is now d -/
def Pn (P : Nat → Nat → Nat) (k d : Nat) : Nat → Nat → Nat := fun a j => if a = 7 ∧ j = k then d else P a j
theorem Pn_o (P : Nat → Nat → Nat) (k d : Nat) {a : Nat} (h : a ≠ 7) : Pn P k d a = P a := by
  funext j; unfold Pn; rw [if_neg (fun z => h z.1)]
theorem Pn_7 (P : Nat → Nat → Nat) (k d : Nat) : Pn P k d 7 k = d := by unfold Pn; rw [if_pos ⟨rfl, rfl⟩]
theorem Pn_7o (P : Nat → Nat → Nat) (k d : Nat) {j : Nat} (h : j ≠ k) : Pn P k d 7 j = P 7 j := by unfold Pn; rw [if_neg (fun z => h z.2)]
theorem lsx_Pn (S : St) (P : Nat → Nat → Nat) (k d : Nat) (LE LW : List (Nat × Ed)) (j : Nat) : lsx S (Pn P k d) LE LW j = lsx S P LE LW j := by
  unfold lsx
  rw [Pn_o P k d (show (0 : Nat) ≠ 7 by decide), Pn_o P k d (show (1 : Nat) ≠ 7 by decide), Pn_o P k d (show (3 : Nat) ≠ 7 by decide)]
theorem c2_add {e0 : Nat} {S S' : St} {w w' : Wd} {P : Nat → Nat → Nat} {LE LW LE' LW' : List (Nat × Ed)} {k d' n' : Nat} {xs' : List Nat} (h : c2 e0 S w P LE LW) (hk : k < 6) (hK : isK e0 w' (P 6 k) d' n' xs') (hd : (d' = P 7 k ∧ 0 < lmx S k) ∨ d' ∉ wL w)
    (K : Kp (fun x => x = P 6 k ∨ (0 < lmx S k ∧ x = P 7 k)) w w') (hl : ∀ j, j < 6 → j ≠ k → lmx S' j = lmx S j) (hl' : lmx S' k = n') (hx : ∀ j, j < 6 → j ≠ k → lsx S' P LE' LW' j = lsx S P LE LW j) (hx' : lsx S' P LE' LW' k = xs') : c2 e0 S' w' (Pn P k d') LE' LW' := by
  obtain ⟨g1, g2, g3⟩ := h
  have gk := g1 k hk
  have fresh : ∀ j, j < 6 → j ≠ k → 0 < lmx S j → P 7 j ≠ d' := fun j hj hjk hp z => by
    rcases hd with ⟨d1, d2⟩ | d1
    · exact g3 j k hj hk hjk hp d2 (z.trans d1)
    · exact d1 (z ▸ ((g1 j hj).2.2.2.2.2.2 hp).2.1.1)
  refine ⟨fun j hj => ?_, fun i j hi hj hn => ?_, fun i j hi hj hn z1 z2 => ?_⟩
  · rw [Pn_o P k d' (show (6 : Nat) ≠ 7 by decide), lsx_Pn]
    by_cases hjk : j = k
    · subst hjk
      rw [Pn_7, hl', hx']; exact hK
    · rw [Pn_7o P k d' hjk, hl j hj hjk, hx j hj hjk]
      have gj := g1 j hj
      refine isK_kp gj K (fun z => ?_) (fun hp z => ?_)
      · rcases z with z | ⟨z1, z2⟩
        · exact g2 j k hj hk hjk z
        · exact absurd z2 (is_ne gj.1 (gk.2.2.2.2.2.2 z1).2.1 (by decide))
      · rcases z with z | ⟨z1, z2⟩
        · exact absurd z (is_ne (gj.2.2.2.2.2.2 hp).2.1 gk.1 (by decide))
        · exact g3 j k hj hk hjk hp z1 z2
  · rw [Pn_o P k d' (show (6 : Nat) ≠ 7 by decide)]; exact g2 i j hi hj hn
  · by_cases hik : i = k
    · subst hik
      rw [Pn_7, Pn_7o P i d' (Ne.symm hn)]
      rw [hl j hj (Ne.symm hn)] at z2
      exact fun z => fresh j hj (Ne.symm hn) z2 z.symm
    · by_cases hjk : j = k
      · subst hjk
        rw [Pn_7, Pn_7o P j d' hik]
        rw [hl i hi hik] at z1
        exact fresh i hi hik z1
      · rw [Pn_7o P k d' hik, Pn_7o P k d' hjk]
        rw [hl i hi hik] at z1
        rw [hl j hj hjk] at z2
        exact g3 i j hi hj hn z1 z2
end
section
/-! THE CLASS: edges, what went out -/
theorem P_eq_c1 {S : St} {w : Wd} {q : Nat} {P : Nat → Nat → Nat} {k d : Nat} (h : c1 S w q P) : c1 S w q (Pn P k d) := by
  unfold c1 at *
  rw [Pn_o P k d (show (6 : Nat) ≠ 7 by decide)]; exact h
theorem P_eq_c3 {S : St} {w : Wd} {P : Nat → Nat → Nat} {k d : Nat} (h : c3 S w P) : c3 S w (Pn P k d) := by
  unfold c3 at *
  rw [Pn_o P k d (show (0 : Nat) ≠ 7 by decide), Pn_o P k d (show (1 : Nat) ≠ 7 by decide), Pn_o P k d (show (2 : Nat) ≠ 7 by decide)]; exact h
theorem P_eq_c4 {S : St} {w : Wd} {P : Nat → Nat → Nat} {k d : Nat} (h : c4 S w P) : c4 S w (Pn P k d) := by
  unfold c4 at *
  rw [Pn_o P k d (show (0 : Nat) ≠ 7 by decide), Pn_o P k d (show (2 : Nat) ≠ 7 by decide)]; exact h
theorem P_eq_c5 {S : St} {w : Wd} {P : Nat → Nat → Nat} {k d : Nat} (h : c5 S w P) : c5 S w (Pn P k d) := by
  unfold c5 at *
  rw [Pn_o P k d (show (0 : Nat) ≠ 7 by decide), Pn_o P k d (show (1 : Nat) ≠ 7 by decide)]; exact h
theorem P_eq_c6 {S : St} {w : Wd} {P : Nat → Nat → Nat} {k d : Nat} (h : c6 S w P) : c6 S w (Pn P k d) := by
  unfold c6 at *
  rw [Pn_o P k d (show (1 : Nat) ≠ 7 by decide)]; exact h
theorem P_eq_c7 {S : St} {w : Wd} {P : Nat → Nat → Nat} {k d : Nat} (h : c7 S w P) : c7 S w (Pn P k d) := by
  unfold c7 at *
  rw [Pn_o P k d (show (0 : Nat) ≠ 7 by decide), Pn_o P k d (show (3 : Nat) ≠ 7 by decide)]; exact h
/-- the list k has another length: the rest is as it was -/
theorem RC_list {e0 : Nat} {S S' : St} {w w' : Wd} {q : Nat} {P : Nat → Nat → Nat} {LE LW LE' LW' : List (Nat × Ed)} {k d' n' : Nat} {xs' : List Nat} (R : RC e0 S w q P LE LW) (hS : okS S) (hk : k < 6) (hK : isK e0 w' (P 6 k) d' n' xs') (hd : (d' = P 7 k ∧ 0 < lmx S k) ∨ d' ∉ wL w)
    (K : Kp (fun x => x = P 6 k ∨ (0 < lmx S k ∧ x = P 7 k)) w w') (hm : mm S' = mm S) (hr : rr S' = rr S) (hB : nB S' = nB S) (hT : nT S' = nT S) (hs : nS S' = nS S) (hl : ∀ j, j < 6 → j ≠ k → lmx S' j = lmx S j) (hl' : lmx S' k = n') (hx : ∀ j, j < 6 → j ≠ k → lsx S' P LE' LW' j = lsx S P LE LW j) (hx' : lsx S' P LE' LW' k = xs') (h8 : c8 S' w' LE' LW') : RC e0 S' w' q (Pn P k d') LE' LW' ∧ FrC w w' := by
  obtain ⟨r1, r2, r3, r4, r5, r6, r7, r8⟩ := R
  have gk := r2.1 k hk
  have kN : ∀ ci, ci ≠ 7 → ci ≠ 100 → ∀ a, bw_is w a ci → ¬ (a = P 6 k ∨ (0 < lmx S k ∧ a = P 7 k)) := fun ci c7' c100 a ha z => by
    rcases z with z | ⟨z1, z2⟩
    · exact absurd z (is_ne ha gk.1 c7')
    · exact absurd z2 (is_ne ha (gk.2.2.2.2.2.2 z1).2.1 c100)
  have e1 := c1_kp r1 K (kN 5 (by decide) (by decide))
  have e3 := c3_kp r3 K (kN 0 (by decide) (by decide))
  have e4 := c4_kp r4 K (kN 4 (by decide) (by decide))
  have e5 := c5_kp r5 K (kN 2 (by decide) (by decide))
  have e6 := c6_kp r6 r5 hS K (kN 2 (by decide) (by decide))
  have e7 := c7_kp r7 K (kN 3 (by decide) (by decide))
  refine ⟨⟨P_eq_c1 (c1_eq e1 (by rw [hm]) (by rw [hm]) (by rw [hm])), c2_add r2 hk hK hd K hl hl' hx hx', P_eq_c3 ?_, P_eq_c4 (c4_eq e4 hB (by rw [hm]) (by rw [hm]) (by rw [hm])), P_eq_c5 ?_, P_eq_c6 ?_, P_eq_c7 (c7_eq e7 hB hs (by rw [hm]) (by rw [hm]) (by rw [hm])), h8⟩, K.frC (fun a ha hx => ?_)⟩
  · unfold c3 at *; rw [hm, hr, hB]; exact e3
  · unfold c5 at *; rw [hm, hB, hT]; exact e5
  · unfold c6 at *; rw [hr]; exact e6
  · rcases hx with z | ⟨z1, z2⟩
    · rw [z, gk.1.2]; unfold kM; omega
    · rw [z2, (gk.2.2.2.2.2.2 z1).2.1.2]; unfold kM; omega
section CL
variable {e0 mi q : Nat} {P : Nat → Nat → Nat} {S : St} {w : Wd} {LE LW : List (Nat × Ed)}
theorem LE_len (R : RC e0 S w q P LE LW) : (LE.map Prod.fst).length = (eds S).length ∧ (LW.map Prod.fst).length = (wts S).length := by
  rw [← R.2.2.2.2.2.2.2.1, ← R.2.2.2.2.2.2.2.2.1]; simp
theorem C_tell {x : Nat} {e : Ed} {nc ns : Nat} {Q : Wd → Prop} (R : RC e0 S w q P LE LW) (hS : okS S) (hx : edAt w x e) (hl : (eds S).length < 4096) (hc : gC (eds S).length (eds S).length ≤ nc) (hs : gS (eds S).length (eds S).length ≤ ns)
    (hQ : ∀ w' d', RC e0 (tellS S e) w' q (Pn P 3 d') (LE ++ [(x, e)]) LW → FrC w w' → Q w') : wp_Br_tell e0 mi q (some x) w nc ns Q := by
  have hlen := (LE_len R).1
  unfold wp_Br_tell wb_Br_tell_22
  refine ⟨R.1.1, C_size R (k := 3) (by decide) ?_⟩
  rw [show lsx S P LE LW 3 = LE.map Prod.fst from rfl, hlen]
  refine ⟨fun z => absurd z (nI_ge (b := 4096) hl (by omega)), fun _ => ⟨R.1.1, P 6 3, R.1.2.2.2.2 3 (by decide), (R.2.1.1 3 (by decide)).1, nc, ns, Nat.le_refl _, Nat.le_refl _, ?_⟩⟩
  have hK := R.2.1.1 3 (by decide)
  have hK' : isK e0 w (P 6 3) (P 7 3) (eds S).length (LE.map Prod.fst) := hK
  refine isK_add hK' ⟨1, hx.1, by decide, by decide⟩ (by omega) (by rw [hlen]; exact hc) (by rw [hlen]; exact hs) (fun w' d' hKn hd K => ?_)
  rw [hlen, Nat.max_eq_right (by omega)] at hKn
  have h8 : c8 (tellS S e) w' (LE ++ [(x, e)]) LW := by
    obtain ⟨g1, g2, g3, g4⟩ := R.2.2.2.2.2.2.2
    have kN : ∀ a, bw_is w a 1 → ¬ (a = P 6 3 ∨ (0 < (eds S).length ∧ a = P 7 3)) := fun a ha z => by
      rcases z with z | ⟨z1, z2⟩
      · exact absurd z (is_ne ha hK.1 (by decide))
      · exact absurd z2 (is_ne ha (hK'.2.2.2.2.2.2 z1).2.1 (by decide))
    refine ⟨by rw [List.map_append, g1]; rfl, g2, fun y hy => ?_, fun y hy => edAt_kp (g4 y hy) K kN⟩
    rcases List.mem_append.mp hy with z | z
    · exact edAt_kp (g3 y z) K kN
    · rw [List.mem_singleton.mp z]; exact edAt_kp hx K kN
  have := RC_list (S' := tellS S e) (LE' := LE ++ [(x, e)]) (LW' := LW) (k := 3) R hS (by decide) hKn hd K rfl rfl rfl rfl rfl (fun j hj hjk => ?_) ?_ (fun j hj hjk => ?_) ?_ h8
  · exact hQ w' d' this.1 this.2
  · match j, hj, hjk with
    | 0, _, _ => rfl
    | 1, _, _ => rfl
    | 2, _, _ => rfl
    | 3, _, h => exact absurd rfl h
    | 4, _, _ => rfl
    | 5, _, _ => rfl
  · show (eds S ++ [e]).length = (eds S).length + 1
    simp
  · match j, hj, hjk with
    | 0, _, _ => rfl
    | 1, _, _ => rfl
    | 2, _, _ => rfl
    | 3, _, h => exact absurd rfl h
    | 4, _, _ => rfl
    | 5, _, _ => rfl
  · show (LE ++ [(x, e)]).map Prod.fst = LE.map Prod.fst ++ [x]
    simp
/-- a new edge, not told yet -/
theorem C_newEdge {v0 : Int32} {v1 v2 v3 : Int32} {k i o : Nat} {Q : Wd → Prop} {x : Nat} {w1 : Wd} (R : RC e0 S w q P LE LW) (hS : okS S) (hx : x ∉ wL w) (e1 : w1 = bw_new w x 1 0) (h1 : v1 = nI k) (h2 : v2 = nI i) (h3 : v3 = nI o)
    (hQ : ∀ w', RC e0 S w' q P LE LW → edAt w' x (v0, k, i, o) → FrC w w' → Kp (fun _ => False) w w' → Q w') : wp_Ed_init e0 mi x v0 v1 v2 v3 w1 Q := by
  unfold wp_Ed_init
  have ix : bw_is w1 x 1 := by rw [e1]; exact bw_is_self w x 1 0
  have K : Kp (fun _ => False) w (sI (sI (sI (sI w1 x 0 v0) x 1 v1) x 2 v2) x 3 v3) := by
    rw [e1]
    exact ((((Kp.rfl.new hx).sI (fun z => hx z)).sI (fun z => hx z)).sI (fun z => hx z)).sI (fun z => hx z)
  refine ⟨ix, hQ _ (RC_kp R hS K (fun a ci ha z => z.elim)) ⟨?_, ?_, ?_, ?_, ?_⟩ (K.frC (fun a ha z => z.elim)) K⟩
  · exact is_eq (by rw [pL_I, pL_I, pL_I, pL_I]) (by rw [pK_I, pK_I, pK_I, pK_I]) ix
  · rw [pI_I, if_neg (fun z => by simp at z), pI_I, if_neg (fun z => by simp at z), pI_I, if_neg (fun z => by simp at z), pI_I, if_pos ⟨rfl, rfl⟩]
  · rw [pI_I, if_neg (fun z => by simp at z), pI_I, if_neg (fun z => by simp at z), pI_I, if_pos ⟨rfl, rfl⟩]; exact h1
  · rw [pI_I, if_neg (fun z => by simp at z), pI_I, if_pos ⟨rfl, rfl⟩]; exact h2
  · rw [pI_I, if_pos ⟨rfl, rfl⟩]; exact h3
theorem C_goneAdd {i : Nat} {nc ns : Nat} {Q : Int32 → Wd → Prop} (R : RC e0 S w q P LE LW) (hS : okS S) (i1 : 1 ≤ i) (i2' : i ≤ nT S) (hl : (gos S).length < 4096) (hc : gC (gos S).length (gos S).length ≤ nc) (hs : gS (gos S).length (gos S).length ≤ ns)
    (hQ : ∀ w' d', RC e0 (ug S (gos S ++ [i])) w' q (Pn P 5 d') LE LW → FrC w w' → Q 1 w') : wp_Al_add e0 mi (P 6 5) (some (P 1 i)) w nc ns Q := by
  have hK : isK e0 w (P 6 5) (P 7 5) (gos S).length ((gos S).map (P 1)) := R.2.1.1 5 (by decide)
  have hlen : ((gos S).map (P 1)).length = (gos S).length := by simp
  refine isK_add hK ⟨2, (R.2.2.2.2.1.1 i i1 i2').1, by decide, by decide⟩ (by omega) (by rw [hlen]; exact hc) (by rw [hlen]; exact hs) (fun w' d' hKn hd K => ?_)
  rw [hlen, Nat.max_eq_right (by omega)] at hKn
  have h8 : c8 (ug S (gos S ++ [i])) w' LE LW := by
    refine c8_eq (c8_kp R.2.2.2.2.2.2.2 K (fun a ha z => ?_)) rfl rfl
    rcases z with z | ⟨z1, z2⟩
    · exact absurd z (is_ne ha hK.1 (by decide))
    · exact absurd z2 (is_ne ha (hK.2.2.2.2.2.2 z1).2.1 (by decide))
  have := RC_list (S' := ug S (gos S ++ [i])) (LE' := LE) (LW' := LW) (k := 5) R hS (by decide) hKn hd K rfl rfl rfl rfl rfl (fun j hj hjk => ?_) ?_ (fun j hj hjk => ?_) ?_ h8
  · exact hQ w' d' this.1 this.2
  · match j, hj, hjk with
    | 0, _, _ => rfl
    | 1, _, _ => rfl
    | 2, _, _ => rfl
    | 3, _, _ => rfl
    | 4, _, _ => rfl
    | 5, _, h => exact absurd rfl h
  · show (gos S ++ [i]).length = (gos S).length + 1
    simp
  · match j, hj, hjk with
    | 0, _, _ => rfl
    | 1, _, _ => rfl
    | 2, _, _ => rfl
    | 3, _, _ => rfl
    | 4, _, _ => rfl
    | 5, _, h => exact absurd rfl h
  · show (gos S ++ [i]).map (P 1) = (gos S).map (P 1) ++ [P 1 i]
    simp
end CL
end
section
/-! THE CLASS: what goes out. The room that a state has taken -/
def cc : Nat → Nat
  | 0 => 0
  | n + 1 => cc n + gC n n
def cs : Nat → Nat
  | 0 => 0
  | n + 1 => cs n + gS n n
def usC (S : St) : Nat := 3 * nB S + nT S + nS S + (eds S).length + (wts S).length + cc (nB S) + cc (nT S) + cc (nS S) + cc (eds S).length + cc (wX S) + cc (gos S).length
def usS (S : St) : Nat := 15 * nB S + 11 * nT S + 4 * nS S + 4 * (eds S).length + 4 * (wts S).length + cs (nB S) + cs (nT S) + cs (nS S) + cs (eds S).length + cs (wX S) + cs (gos S).length
theorem uC_tell (S : St) (e : Ed) : usC (tellS S e) = usC S + 1 + gC (eds S).length (eds S).length ∧ usS (tellS S e) = usS S + 4 + gS (eds S).length (eds S).length := by
  have h : (eds (tellS S e)).length = (eds S).length + 1 := by unfold tellS; rw [eds_ue]; simp
  have c1' : cc ((eds S).length + 1) = cc (eds S).length + gC (eds S).length (eds S).length := rfl
  have c2' : cs ((eds S).length + 1) = cs (eds S).length + gS (eds S).length (eds S).length := rfl
  refine ⟨?_, ?_⟩
  · show 3 * nB S + nT S + nS S + (eds (tellS S e)).length + (wts S).length + cc (nB S) + cc (nT S) + cc (nS S) + cc (eds (tellS S e)).length + cc (wX S) + cc (gos S).length = _
    rw [h, c1']; unfold usC; omega
  · show 15 * nB S + 11 * nT S + 4 * nS S + 4 * (eds (tellS S e)).length + 4 * (wts S).length + cs (nB S) + cs (nT S) + cs (nS S) + cs (eds (tellS S e)).length + cs (wX S) + cs (gos S).length = _
    rw [h, c2']; unfold usS; omega
theorem uC_gone (S : St) (i : Nat) : usC (ug S (gos S ++ [i])) = usC S + gC (gos S).length (gos S).length ∧ usS (ug S (gos S ++ [i])) = usS S + gS (gos S).length (gos S).length := by
  have h : (gos (ug S (gos S ++ [i]))).length = (gos S).length + 1 := by rw [gos_ug]; simp
  have c1' : cc ((gos S).length + 1) = cc (gos S).length + gC (gos S).length (gos S).length := rfl
  have c2' : cs ((gos S).length + 1) = cs (gos S).length + gS (gos S).length (gos S).length := rfl
  refine ⟨?_, ?_⟩
  · show 3 * nB S + nT S + nS S + (eds S).length + (wts S).length + cc (nB S) + cc (nT S) + cc (nS S) + cc (eds S).length + cc (wX S) + cc (gos (ug S (gos S ++ [i]))).length = _
    rw [h, c1']; unfold usC; omega
  · show 15 * nB S + 11 * nT S + 4 * nS S + 4 * (eds S).length + 4 * (wts S).length + cs (nB S) + cs (nT S) + cs (nS S) + cs (eds S).length + cs (wX S) + cs (gos (ug S (gos S ++ [i]))).length = _
    rw [h, c2']; unfold usS; omega
/-- only the rows of the lists have moved -/
def Pk (P P' : Nat → Nat → Nat) : Prop := ∀ a, a ≠ 7 → P' a = P a
theorem Pk.rfl {P : Nat → Nat → Nat} : Pk P P := fun _ _ => Eq.refl _
theorem Pk.trans {P1 P2 P3 : Nat → Nat → Nat} (h1 : Pk P1 P2) (h2 : Pk P2 P3) : Pk P1 P3 := fun a ha => (h2 a ha).trans (h1 a ha)
theorem Pk_n (P : Nat → Nat → Nat) (k d : Nat) : Pk P (Pn P k d) := fun _ ha => Pn_o P k d ha
section CL
variable {e0 mi q : Nat} {P : Nat → Nat → Nat} {S : St} {w : Wd} {LE LW : List (Nat × Ed)}
/-- a number of the object itself -/
theorem RC_own {S' : St} {s : Nat} {v : Int32} (R : RC e0 S w q P LE LW) (hS : okS S) (hr : rr S' = rr S) (hB : nB S' = nB S) (hT : nT S' = nT S) (hs : nS S' = nS S) (hl : ∀ k, lmx S' k = lmx S k) (hx : ∀ k, lsx S' P LE LW k = lsx S P LE LW k) (he : eds S' = eds S) (hw : wts S' = wts S)
    (hm : ∀ k, k ≠ 1 → k ≠ 2 → k ≠ 30 → mm S' k = mm S k) (t2 : (if s = 6 then v else mm S 2 0) = mm S' 2 0) (t1 : (if s = 7 then v else mm S 1 0) = mm S' 1 0) (t30 : (if s = 8 then v else mm S 30 0) = mm S' 30 0) : RC e0 S' (sI w q s v) q P LE LW ∧ FrC w (sI w q s v) := by
  obtain ⟨r1, r2, r3, r4, r5, r6, r7, r8⟩ := R
  have K : Kp (fun x => x = q) w (sI w q s v) := Kp.rfl.sI (fun _ => rfl)
  have kN : ∀ ci, ci ≠ 5 → ∀ a, bw_is w a ci → ¬ a = q := fun ci hci a ha => is_ne ha r1.1 hci
  have e3 := c3_kp r3 K (kN 0 (by decide))
  have e4 := c4_kp r4 K (kN 4 (by decide))
  have e5 := c5_kp r5 K (kN 2 (by decide))
  have e6 := c6_kp r6 r5 hS K (kN 2 (by decide))
  have e7 := c7_kp r7 K (kN 3 (by decide))
  have e8 := c8_kp r8 K (kN 1 (by decide))
  have e2 := c2_kp r2 K (kN 7 (by decide)) (kN 100 (by decide))
  have rd : ∀ j (x y z : Int32), x = y → (if s = j then v else y) = z → (if q = q ∧ j = s then v else x) = z := fun j x y z hxy hz => by
    rw [← hz, hxy]
    by_cases hj : s = j
    · rw [if_pos hj, if_pos ⟨rfl, hj.symm⟩]
    · rw [if_neg hj, if_neg (fun q => hj q.2.symm)]
  refine ⟨⟨⟨r1.1, ?_, ?_, ?_, r1.2.2.2.2⟩, c2_eq e2 hl hx, ?_, c4_eq e4 hB (hm 7 (by decide) (by decide) (by decide)) (hm 8 (by decide) (by decide) (by decide)) (hm 9 (by decide) (by decide) (by decide)), ?_, ?_, c7_eq e7 hB hs (hm 22 (by decide) (by decide) (by decide)) (hm 23 (by decide) (by decide) (by decide)) (hm 24 (by decide) (by decide) (by decide)), c8_eq e8 he hw⟩, K.frC (fun a ha z => by rw [z, r1.1.2]; unfold kM; omega)⟩
  · rw [pI_I]; exact rd 6 _ _ _ r1.2.1 t2
  · rw [pI_I]; exact rd 7 _ _ _ r1.2.2.1 t1
  · rw [pI_I]; exact rd 8 _ _ _ r1.2.2.2.1 t30
  · unfold c3 at *
    rw [hr, hB, hm 4 (by decide) (by decide) (by decide), hm 5 (by decide) (by decide) (by decide), hm 6 (by decide) (by decide) (by decide)]; exact e3
  · unfold c5 at *
    rw [hB, hT, hm 13 (by decide) (by decide) (by decide), hm 14 (by decide) (by decide) (by decide), hm 15 (by decide) (by decide) (by decide), hm 16 (by decide) (by decide) (by decide), hm 17 (by decide) (by decide) (by decide), hm 18 (by decide) (by decide) (by decide), hm 19 (by decide) (by decide) (by decide), hm 20 (by decide) (by decide) (by decide)]; exact e5
  · unfold c6 at *
    rw [hr]; exact e6
theorem RC_sum (R : RC e0 S w q P LE LW) (hS : okS S) (v : Int32) : RC e0 (um S 30 0 v) (sI w q 8 v) q P LE LW ∧ FrC w (sI w q 8 v) :=
  RC_own R hS rfl rfl rfl rfl (fun _ => rfl) (fun _ => rfl) rfl rfl (fun k _ _ h30 => mm_um_ne S 0 v h30) (by rw [mm_um_ne S 0 v (by decide)]; rfl) (by rw [mm_um_ne S 0 v (by decide)]; rfl) (by rw [mm_um_at]; rfl)
theorem RC_time (R : RC e0 S w q P LE LW) (hS : okS S) (v : Int32) : RC e0 (um S 1 0 v) (sI w q 7 v) q P LE LW ∧ FrC w (sI w q 7 v) :=
  RC_own R hS rfl rfl rfl rfl (fun _ => rfl) (fun _ => rfl) rfl rfl (fun k h1 _ _ => mm_um_ne S 0 v h1) (by rw [mm_um_ne S 0 v (by decide)]; rfl) (by rw [mm_um_at]; rfl) (by rw [mm_um_ne S 0 v (by decide)]; rfl)
theorem RC_gap (R : RC e0 S w q P LE LW) (hS : okS S) (v : Int32) : RC e0 (um S 2 0 v) (sI w q 6 v) q P LE LW ∧ FrC w (sI w q 6 v) :=
  RC_own R hS rfl rfl rfl rfl (fun _ => rfl) (fun _ => rfl) rfl rfl (fun k _ h2 _ => mm_um_ne S 0 v h2) (by rw [mm_um_at]; rfl) (by rw [mm_um_ne S 0 v (by decide)]; rfl) (by rw [mm_um_ne S 0 v (by decide)]; rfl)
theorem C_out {b nc ns : Nat} {Q : Wd → Prop} (R : RC e0 S w q P LE LW) (hS : okS S) (hb : b < nB S) (he : (eds S).length < 4096) (hc : usC (outS S b) ≤ usC S + nc) (hs : usS (outS S b) ≤ usS S + ns)
    (hQ : ∀ w' P' LE', RC e0 (outS S b) w' q P' LE' LW → Pk P P' → FrC w w' → Q w') : wp_Br_letOut e0 mi q (some (P 0 b)) w nc ns Q := by
  have hbc := (R.2.2.1.1 b hb).1
  unfold wp_Br_letOut wb_Br_letOut_17
  refine ⟨P 0 b, rfl, hbc, C_atEnd R hS hb ?_⟩
  cases ha : atEndS S b with
  | none =>
    have hs' : outS S b = S := by unfold outS; rw [ha]
    exact ⟨fun _ => hQ w P LE (by rw [hs']; exact R) Pk.rfl FrC.rfl, fun z => absurd rfl z⟩
  | some i =>
    obtain ⟨t, ht, -⟩ := atEnd_some ha
    have him : i ∈ rr S b := by rw [ht]; exact List.mem_cons_self
    obtain ⟨-, i1, i2', i3, i4, i5, b8, i61⟩ := in_row hS him
    have hp : (rr S b)[0]? = some i := by rw [ht]; rfl
    refine ⟨fun z => absurd z (by simp), fun _ => ⟨hbc, C_wayOf R hS him ?_⟩⟩
    cases hg : goesS S b i with
    | some k =>
      have hs' : outS S b = S := by unfold outS; rw [ha]; simp only [hg]
      exact ⟨fun z => absurd z (by simp), fun _ => hQ w P LE (by rw [hs']; exact R) Pk.rfl FrC.rfl⟩
    | none =>
      have hout : outS S b = tellS (um (ug (um (ur S b ((rr S b).eraseIdx 0)) 13 i 1) (gos S ++ [i])) 30 0 (mm S 30 0 + (mm S 1 0 - mm S 20 i))) (mm S 1 0, 1, i, b) := by
        unfold outS; rw [ha]; simp only [hg]
      have ok1 := ok_leave hS hp (v := 1) (by decide)
      have hng : i ∉ gos S := fun z => by
        have := (hS.2.2.2.2.2.2.1.2 i z).2.2
        rw [i3] at this
        exact absurd this (by decide)
      have ok2 := ok_gone (i := i) ok1 i1 i2' (by rw [mm_um, if_pos ⟨rfl, rfl⟩]) hng
      rw [gos_um, gos_ur] at ok2
      have ok3 := ok_um ok2 (k := 30) (by unfold okSlot; decide) 0 (mm S 30 0 + (mm S 1 0 - mm S 20 i))
      have hg60 : (gos S).length ≤ 60 := by
        have := nodup_le (nT S) (gos S) hS.2.2.2.2.2.2.1.1 (fun i hi => ⟨(hS.2.2.2.2.2.2.1.2 i hi).1, (hS.2.2.2.2.2.2.1.2 i hi).2.1⟩)
        have := hS.1.2.1
        omega
      have ut := uC_tell (um (ug (um (ur S b ((rr S b).eraseIdx 0)) 13 i 1) (gos S ++ [i])) 30 0 (mm S 30 0 + (mm S 1 0 - mm S 20 i))) (mm S 1 0, 1, i, b)
      have ug' := uC_gone (um (ur S b ((rr S b).eraseIdx 0)) 13 i 1) i
      have u1 : usC (um (ug (um (ur S b ((rr S b).eraseIdx 0)) 13 i 1) (gos S ++ [i])) 30 0 (mm S 30 0 + (mm S 1 0 - mm S 20 i))) = usC S + gC (gos S).length (gos S).length := ug'.1
      have u2 : usS (um (ug (um (ur S b ((rr S b).eraseIdx 0)) 13 i 1) (gos S ++ [i])) 30 0 (mm S 30 0 + (mm S 1 0 - mm S 20 i))) = usS S + gS (gos S).length (gos S).length := ug'.2
      have ue' : eds (um (ug (um (ur S b ((rr S b).eraseIdx 0)) 13 i 1) (gos S ++ [i])) 30 0 (mm S 30 0 + (mm S 1 0 - mm S 20 i))) = eds S := by rw [eds_um, eds_ug, eds_um, eds_ur]
      rw [← hout, u1, u2, ue'] at ut
      rw [ut.1] at hc
      rw [ut.2] at hs
      refine ⟨fun _ => ⟨P 1 i, rfl, (R.2.2.2.2.1.1 i i1 i2').1, C_leave R hS hp (by decide) (fun w23 R1 F1 _ => ?_)⟩, fun z => absurd rfl z⟩
      refine ⟨R1.1.1, P 6 5, R1.1.2.2.2.2 5 (by decide), (R1.2.1.1 5 (by decide)).1, gC (gos S).length (gos S).length, gS (gos S).length (gos S).length, by omega, by omega, C_goneAdd R1 ok1 i1 i2' (by show (gos S).length < 4096; omega) (Nat.le_refl _) (Nat.le_refl _) (fun w33 d5 R2 F2 => ?_)⟩
      rw [gos_um, gos_ur] at R2
      have hP1 : Pn P 5 d5 1 = P 1 := Pn_o P 5 d5 (by decide)
      have hP0 : Pn P 5 d5 0 = P 0 := Pn_o P 5 d5 (by decide)
      have h5i := R2.2.2.2.2.1.1 i i1 i2'
      rw [hP1] at h5i
      refine ⟨R2.1.1, h5i.1, by omega, by omega, fun x hx w45 e45 => ?_⟩
      have v8 : wI w33 q 8 = mm S 30 0 := by rw [R2.1.2.2.2.1, mm_ug, mm_um_ne _ _ _ (by decide), mm_ur]
      have v7 : wI w33 q 7 = mm S 1 0 := by rw [R2.1.2.2.1, mm_ug, mm_um_ne _ _ _ (by decide), mm_ur]
      have v2 : wI w33 (P 1 i) 2 = mm S 20 i := by rw [h5i.2.2.2.1, mm_ug, mm_um_ne _ _ _ (by decide), mm_ur]
      rw [v8, v7, v2] at hx e45
      obtain ⟨R3, F3⟩ := RC_sum R2 ok2 (mm S 30 0 + (mm S 1 0 - mm S 20 i))
      have R4 : RC e0 _ w45 q (Pn P 5 d5) LE LW := RC_kp R3 ok3 (X := fun _ => False) (by rw [e45]; exact Kp.rfl.new hx) (fun a ci ha z => False.elim z)
      have hb4 := R4.2.2.1.1 b hb
      have h5i4 := R4.2.2.2.2.1.1 i i1 i2'
      rw [hP0] at hb4
      rw [hP1] at h5i4
      refine ⟨hb4.1, C_newEdge (v0 := wI w45 q 7) (k := 1) (i := i) (o := b) R3 ok3 hx e45 rfl h5i4.2.1 hb4.2.1 (fun w49 R5 hE F5 _ => ?_)⟩
      have v7' : wI w45 q 7 = mm S 1 0 := by rw [R4.1.2.2.1, mm_um_ne _ _ _ (by decide), mm_ug, mm_um_ne _ _ _ (by decide), mm_ur]
      rw [v7'] at hE
      refine ⟨R5.1.1, gC (eds S).length (eds S).length, gS (eds S).length (eds S).length, by omega, by omega, C_tell R5 ok3 hE (by rw [ue']; exact he) (by rw [ue']; exact Nat.le_refl _) (by rw [ue']; exact Nat.le_refl _) (fun w57 d3 R6 F6 => ?_)⟩
      rw [← hout] at R6
      exact hQ w57 _ _ R6 ((Pk_n P 5 d5).trans (Pk_n _ 3 d3)) ((((F1.trans F2).trans F3).trans F5).trans F6)
end CL
end
section
/-! THE CLASS: an item is passed on -/
section CL
variable {e0 mi q : Nat} {P : Nat → Nat → Nat} {S : St} {w : Wd} {LE LW : List (Nat × Ed)}
theorem RC_went {k : Nat} (R : RC e0 S w q P LE LW) (hS : okS S) (hk : k < 2 * nB S) (v : Int32) : RC e0 (um S 9 k v) (sI w (P 2 k) 2 v) q P LE LW ∧ FrC w (sI w (P 2 k) 2 v) := by
  obtain ⟨r1, r2, r3, r4, r5, r6, r7, r8⟩ := R
  have h4k := (r4.1 k hk).1
  have K : Kp (fun x => x = P 2 k) w (sI w (P 2 k) 2 v) := Kp.rfl.sI (fun _ => rfl)
  have kN : ∀ ci, ci ≠ 4 → ∀ a, bw_is w a ci → ¬ a = P 2 k := fun ci hci a ha => is_ne ha h4k hci
  have em : ∀ j, j ≠ 9 → mm (um S 9 k v) j = mm S j := fun j hj => mm_um_ne S k v hj
  have e3 := c3_kp r3 K (kN 0 (by decide))
  have e5 := c5_kp r5 K (kN 2 (by decide))
  have e6 := c6_kp r6 r5 hS K (kN 2 (by decide))
  refine ⟨⟨c1_eq (c1_kp r1 K (kN 5 (by decide))) (em 1 (by decide)) (em 2 (by decide)) (em 30 (by decide)), c2_eq (c2_kp r2 K (kN 7 (by decide)) (kN 100 (by decide))) (fun _ => rfl) (fun _ => rfl), ?_, ⟨fun j hj => ?_, r4.2⟩, ?_, e6, c7_eq (c7_kp r7 K (kN 3 (by decide))) rfl rfl (em 22 (by decide)) (em 23 (by decide)) (em 24 (by decide)), c8_eq (c8_kp r8 K (kN 1 (by decide))) rfl rfl⟩, K.frC (fun a ha z => by rw [z, h4k.2]; unfold kM; omega)⟩
  · unfold c3 at *
    rw [em 4 (by decide), em 5 (by decide), em 6 (by decide)]; exact e3
  · replace hj : j < 2 * nB S := hj
    obtain ⟨q0, q1, q2, q3, q4⟩ := r4.1 j hj
    rw [em 7 (by decide), em 8 (by decide), mm_um]
    by_cases hjk : j = k
    · subst hjk
      rw [if_pos ⟨rfl, rfl⟩]
      refine ⟨q0, by rw [pI_I, if_pos ⟨rfl, rfl⟩], q2, q3, fun z => ?_⟩
      rw [pI_I, if_neg (fun y => by simp at y)]; exact q4 z
    · have hne : P 2 j ≠ P 2 k := fun z => hjk (r4.2 j k hj hk z)
      rw [if_neg (fun z => hjk z.2)]
      refine ⟨q0, by rw [pI_I, if_neg (fun y => hne y.1)]; exact q1, q2, q3, fun z => ?_⟩
      rw [pI_I, if_neg (fun y => hne y.1)]; exact q4 z
  · unfold c5 at *
    rw [em 13 (by decide), em 14 (by decide), em 15 (by decide), em 16 (by decide), em 17 (by decide), em 18 (by decide), em 19 (by decide), em 20 (by decide)]; exact e5
theorem missC_le (S : St) (b : Nat) : missC S b ≤ 0 ↔ ¬ (0 : Int32) < missS S b := by
  unfold missC
  by_cases h : (0 : Int32) < missS S b
  · rw [if_pos h]
    exact ⟨fun z => absurd z (Int32.not_le.mpr h), fun z => absurd h z⟩
  · rw [if_neg h]
    exact ⟨fun _ => h, fun _ => by decide⟩
theorem C_pass {b nc ns : Nat} {Q : Wd → Prop} (R : RC e0 S w q P LE LW) (hS : okS S) (hb : b < nB S) (he : (eds S).length < 4096) (hc : usC (passS S b) ≤ usC S + nc) (hs : usS (passS S b) ≤ usS S + ns)
    (hQ : ∀ w' P' LE', RC e0 (passS S b) w' q P' LE' LW → Pk P P' → FrC w w' → Q w') : wp_Br_passOnTo e0 mi q (some (P 0 b)) w nc ns Q := by
  have hb8 := hS.1.1
  have hbc := (R.2.2.1.1 b hb).1
  unfold wp_Br_passOnTo
  refine ⟨R.1.1, C_missing R hS hb ⟨fun z => ⟨R.1.1, ?_⟩, fun z => ?_⟩⟩
  · have hm := (missC_le S b).mp z
    unfold wp_Br_giverTo
    refine ⟨b + 1, C_giver R hS hb ?_ b 0 (by omega)⟩
    cases hg : giverS S b b with
    | none =>
      have hsame : passS S b = S := by unfold passS; rw [if_neg hm]; simp only [hg]
      exact ⟨fun y => absurd rfl y, fun _ => hQ w P LE (by rw [hsame]; exact R) Pk.rfl FrC.rfl⟩
    | some k =>
      obtain ⟨x, hx, hk⟩ := giver_some b k hg
      obtain ⟨j, t, ht, hpl, hgo, ⟨y, hy, hky⟩, h7, h6x⟩ := cand_some hS hk
      have hk2 : k / 2 = x := by omega
      have hxB : x < nB S := by omega
      have hjm : j ∈ rr S x := by rw [ht]; exact List.mem_cons_self
      obtain ⟨-, j1, j2, j3, j4, j5, x8, j61⟩ := in_row hS hjm
      have hp : (rr S x)[0]? = some j := by rw [ht]; rfl
      have et : (rr S x).eraseIdx 0 = t := by rw [ht]; rfl
      have hae : atEndS S x = some j := by unfold atEndS; rw [ht]; simp only [if_pos hpl]
      have hkB : k < 2 * nB S := by omega
      have hpass : passS S b = tellS (comeS (ur (um S 9 k (mm S 9 k + 1)) x t) j b) (mm S 1 0, 2, j, b) := by
        unfold passS; rw [if_neg hm]; simp only [hg, hk2, ht]; rfl
      have h3x := (R.2.2.1.1 x hxB).1
      have h4k := R.2.2.2.1.1 k hkB
      have huse : useS S x = some k := by unfold useS; rw [if_neg h6x, hae]; exact hgo
      refine ⟨fun _ => ⟨P 0 x, by show some (P 0 (k / 2)) = _; rw [hk2], h3x, C_atEnd R hS hxB ?_⟩, fun q0 => absurd q0 (by simp)⟩
      rw [hae]
      refine ⟨h3x, C_inUse R hS hxB ?_⟩
      rw [huse]
      refine ⟨fun q0 => absurd q0 (by simp), fun _ => ⟨fun _ => ⟨P 2 k, rfl, h4k.1, ?_⟩, fun q0 => absurd q0 (by simp)⟩⟩
      rw [h4k.2.1]
      obtain ⟨R1, F1⟩ := RC_went R hS hkB (mm S 9 k + 1)
      have ok1 := ok_um hS (k := 9) (by unfold okSlot; decide) k (mm S 9 k + 1)
      refine ⟨(R1.2.2.1.1 x hxB).1, C_let R1 ok1 hp (fun w7 k3 k5 k6 kI K kL => ?_)⟩
      have hxb : b ≠ x := by omega
      have kN : ∀ a ci, bw_is (sI w (P 2 k) 2 (mm S 9 k + 1)) a ci → ci ≠ 0 → ci ≠ 2 → ¬ (a = P 0 x ∨ ∃ i, i ∈ rr (um S 9 k (mm S 9 k + 1)) x ∧ a = P 1 i) := fun a ci ha c0 c2' z => by
        rcases z with z | ⟨i, hi, z⟩
        · exact absurd z (is_ne ha (R1.2.2.1.1 x hxB).1 c0)
        · have hi' := in_row ok1 hi
          exact absurd z (is_ne ha (R1.2.2.2.2.1.1 i hi'.2.1 hi'.2.2.1).1 c2')
      have F7 : FrC (sI w (P 2 k) 2 (mm S 9 k + 1)) w7 := K.frC (fun a ha z => by
        rcases z with z | ⟨i, hi, z⟩
        · rw [z, (R1.2.2.1.1 x hxB).1.2]; unfold kM; omega
        · have hi' := in_row ok1 hi
          rw [z, (R1.2.2.2.2.1.1 i hi'.2.1 hi'.2.2.1).1.2]; unfold kM; omega)
      obtain ⟨r1, r2, r3, r4, r5, r6, r7, r8⟩ := R1
      have et1 : (rr (um S 9 k (mm S 9 k + 1)) x).eraseIdx 0 = t := et
      rw [et1] at k3 k6
      have hrow : ∀ c, rr (ur (um S 9 k (mm S 9 k + 1)) x t) c = if c = x then t else rr S c := fun c => by rw [rr_ur, rr_um]
      have hnd := hS.2.2.2.1 x
      rw [ht] at hnd
      obtain ⟨hjt, htn⟩ := List.nodup_cons.mp hnd
      have hsub : ∀ c i, i ∈ rr (ur (um S 9 k (mm S 9 k + 1)) x t) c → i ∈ rr S c ∧ i ≠ j := fun c i hi => by
        rw [hrow] at hi
        by_cases hcx : c = x
        · rw [if_pos hcx] at hi
          rw [hcx, ht]
          exact ⟨List.mem_cons_of_mem _ hi, fun z => hjt (z ▸ hi)⟩
        · rw [if_neg hcx] at hi
          exact ⟨hi, fun z => hcx (ok_row hS (z ▸ hi) hjm)⟩
      have hb7 : bw_is w7 (P 0 b) 0 := (k3.1 b hb).1
      refine ⟨P 0 b, rfl, hb7, C_take (S := ur (um S 9 k (mm S 9 k + 1)) x t) (LE := LE) (LW := LW) (q := q) (e0 := e0) (c1_eq (c1_kp r1 K (fun a ha => kN a 5 ha (by decide) (by decide))) rfl rfl rfl) (c2_eq (c2_kp r2 K (fun a ha => kN a 7 ha (by decide) (by decide)) (fun a ha => kN a 100 ha (by decide) (by decide))) (fun _ => rfl) (fun _ => rfl)) k3 (c4_eq (c4_kp r4 K (fun a ha => kN a 4 ha (by decide) (by decide))) rfl rfl rfl rfl) (c5_x (S := ur (um S 9 k (mm S 9 k + 1)) x t) k5 j) k6 (c7_eq (c7_kp r7 K (fun a ha => kN a 3 ha (by decide) (by decide))) rfl rfl rfl rfl rfl) (c8_eq (c8_kp r8 K (fun a ha => kN a 1 ha (by decide) (by decide))) rfl rfl) (fun c i hi => ?_) ?_ (fun c hc i hi hi2 => ?_) hb hb8 j1 j2 (fun w16 R2 F2 _ => ?_)⟩
      · obtain ⟨q1, q2⟩ := hsub c i hi
        have := in_row hS q1
        exact ⟨this.2.1, this.2.2.1, q2⟩
      · rw [hrow, if_neg hxb]; exact hS.2.2.2.1 b
      · exact hc (ok_row hS (hsub c i hi).1 (hsub b i hi2).1)
      · have ok2 : okS (comeS (ur (um S 9 k (mm S 9 k + 1)) x t) j b) := ok_move hS (k := k) (v := mm S 9 k + 1) ht hb hxb
        have ut := uC_tell (comeS (ur (um S 9 k (mm S 9 k + 1)) x t) j b) (mm S 1 0, 2, j, b)
        have u1 : usC (comeS (ur (um S 9 k (mm S 9 k + 1)) x t) j b) = usC S := rfl
        have u2 : usS (comeS (ur (um S 9 k (mm S 9 k + 1)) x t) j b) = usS S := rfl
        have ue' : eds (comeS (ur (um S 9 k (mm S 9 k + 1)) x t) j b) = eds S := rfl
        rw [← hpass, u1, u2, ue'] at ut
        rw [ut.1] at hc
        rw [ut.2] at hs
        refine ⟨by omega, by omega, fun z hz w26 e26 => ?_⟩
        have R3 : RC e0 (comeS (ur (um S 9 k (mm S 9 k + 1)) x t) j b) w26 q P LE LW := RC_kp R2 ok2 (X := fun _ => False) (by rw [e26]; exact Kp.rfl.new hz) (fun a ci ha z => False.elim z)
        have h5j := R3.2.2.2.2.1.1 j j1 j2
        have h3b := R3.2.2.1.1 b hb
        refine ⟨R3.1.1, P 1 j, rfl, h5j.1, h3b.1, C_newEdge (v0 := wI w26 q 7) (k := 2) (i := j) (o := b) R2 ok2 hz e26 rfl h5j.2.1 h3b.2.1 (fun w33 R4 hE F4 _ => ?_)⟩
        have v7 : wI w26 q 7 = mm S 1 0 := by rw [R3.1.2.2.1, mm_come _ _ _ (by decide), mm_ur, mm_um_ne _ _ _ (by decide)]
        rw [v7] at hE
        refine ⟨R4.1.1, gC (eds S).length (eds S).length, gS (eds S).length (eds S).length, by omega, by omega, C_tell R4 ok2 hE (by rw [ue']; exact he) (by rw [ue']; exact Nat.le_refl _) (by rw [ue']; exact Nat.le_refl _) (fun w41 d3 R5 F5 => ?_)⟩
        rw [← hpass] at R5
        exact hQ w41 _ _ R5 (Pk_n P 3 d3) ((((F1.trans F7).trans F2).trans F4).trans F5)
  · have hm : (0 : Int32) < missS S b := by
      by_cases h : (0 : Int32) < missS S b
      · exact h
      · exact absurd ((missC_le S b).mpr h) z
    have hsame : passS S b = S := by unfold passS; rw [if_pos hm]
    exact hQ w P LE (by rw [hsame]; exact R) Pk.rfl FrC.rfl
end CL
end
section
/-! THE CLASS: an item goes on -/
theorem i32_min (a b : Int32) : (if a < b then a else b).toInt = min a.toInt b.toInt := by
  by_cases h : a < b
  · rw [if_pos h]; rw [Int32.lt_iff_toInt_lt] at h; omega
  · rw [if_neg h]; rw [Int32.lt_iff_toInt_lt] at h; omega
theorem i32_max (a b : Int32) : (if a < b then b else a).toInt = max a.toInt b.toInt := by
  by_cases h : a < b
  · rw [if_pos h]; rw [Int32.lt_iff_toInt_lt] at h; omega
  · rw [if_neg h]; rw [Int32.lt_iff_toInt_lt] at h; omega
theorem to_eq {S : St} {b i : Nat} {most z0 i4 i5 : Int32} (hz : z0.toInt = min most.toInt (mm S 4 b).toInt) (h4 : i4 = (if z0 < (mm S 15 i + mm S 5 b) then z0 else (mm S 15 i + mm S 5 b))) (h5 : i5 = (if mm S 15 i < i4 then i4 else mm S 15 i)) : i5 = toS S b most i := by
  apply Int32.toInt_inj.mp
  unfold toS
  simp only []
  rw [h5, i32_max, i32_max, h4, i32_min, hz, i32_min, i32_min]
  omega
theorem st_sub {S : St} {i : Nat} {k : Nat} (e t : Int32) (h1 : k ≠ 15) (h2 : k ≠ 19) : mm (um (um S 19 i e) 15 i t) k = mm S k := by rw [mm_um_ne _ _ _ h1, mm_um_ne _ _ _ h2]
section CL
variable {e0 mi q : Nat} {P : Nat → Nat → Nat} {S : St} {w : Wd} {LE LW : List (Nat × Ed)}
/-- the item i has another place and another expected place -/
theorem RC_place {b i : Nat} (R : RC e0 S w q P LE LW) (hS : okS S) (him : i ∈ rr S b) (e t : Int32) : RC e0 (um (um S 19 i e) 15 i t) (sI (sI w (P 1 i) 7 t) (P 1 i) 8 e) q P LE LW ∧ FrC w (sI (sI w (P 1 i) 7 t) (P 1 i) 8 e) := by
  obtain ⟨-, i1, i2', i3, -⟩ := in_row hS him
  obtain ⟨r1, r2, r3, r4, r5, r6, r7, r8⟩ := R
  have h5i := (r5.1 i i1 i2').1
  have K : Kp (fun x => x = P 1 i) w (sI (sI w (P 1 i) 7 t) (P 1 i) 8 e) := ((Kp.rfl (X := fun x => x = P 1 i)).sI (fun _ => rfl)).sI (fun _ => rfl)
  have kN : ∀ ci, ci ≠ 2 → ∀ a, bw_is w a ci → ¬ a = P 1 i := fun ci hci a ha => is_ne ha h5i hci
  have em : ∀ k, k ≠ 15 → k ≠ 19 → mm (um (um S 19 i e) 15 i t) k = mm S k := fun k h1 h2 => st_sub e t h1 h2
  have e3 := c3_kp r3 K (kN 0 (by decide))
  refine ⟨⟨c1_eq (c1_kp r1 K (kN 5 (by decide))) (em 1 (by decide) (by decide)) (em 2 (by decide) (by decide)) (em 30 (by decide) (by decide)), c2_eq (c2_kp r2 K (kN 7 (by decide)) (kN 100 (by decide))) (fun _ => rfl) (fun _ => rfl), ?_, c4_eq (c4_kp r4 K (kN 4 (by decide))) rfl (em 7 (by decide) (by decide)) (em 8 (by decide) (by decide)) (em 9 (by decide) (by decide)), ⟨fun j j1 j2 => ?_, r5.2⟩, fun c k j hk => ?_, c7_eq (c7_kp r7 K (kN 3 (by decide))) rfl rfl (em 22 (by decide) (by decide)) (em 23 (by decide) (by decide)) (em 24 (by decide) (by decide)), c8_eq (c8_kp r8 K (kN 1 (by decide))) rfl rfl⟩, K.frC (fun a ha z => by rw [z, h5i.2]; unfold kM; omega)⟩
  · unfold c3 at *
    rw [em 4 (by decide) (by decide), em 5 (by decide) (by decide), em 6 (by decide) (by decide)]; exact e3
  · rw [em 16 (by decide) (by decide), em 20 (by decide) (by decide), em 13 (by decide) (by decide), em 14 (by decide) (by decide), em 17 (by decide) (by decide), em 18 (by decide) (by decide)]
    obtain ⟨q0, q1, q2, q3, q4, q5, q6⟩ := r5.1 j j1 j2
    by_cases hji : j = i
    · subst hji
      refine ⟨q0, ?_, ?_, ?_, ?_, q5, fun z => ⟨?_, ?_, ?_, ?_⟩⟩
      · rw [pI_I, if_neg (fun y => by simp at y), pI_I, if_neg (fun y => by simp at y)]; exact q1
      · rw [pI_I, if_neg (fun y => by simp at y), pI_I, if_neg (fun y => by simp at y)]; exact q2
      · rw [pI_I, if_neg (fun y => by simp at y), pI_I, if_neg (fun y => by simp at y)]; exact q3
      · rw [pI_I, if_neg (fun y => by simp at y), pI_I, if_neg (fun y => by simp at y)]; exact q4
      · rw [pI_I, if_neg (fun y => by simp at y), pI_I, if_pos ⟨rfl, rfl⟩, mm_um_at]
      · rw [pI_I, if_pos ⟨rfl, rfl⟩, mm_um_ne _ _ _ (by decide), mm_um_at]
      · rw [pI_I, if_neg (fun y => by simp at y), pI_I, if_neg (fun y => by simp at y)]; exact (q6 z).2.2.1
      · rw [pI_I, if_neg (fun y => by simp at y), pI_I, if_neg (fun y => by simp at y)]; exact (q6 z).2.2.2
    · have hne : P 1 j ≠ P 1 i := fun z => hji (r5.2 j i j1 j2 i1 i2' z)
      have ee : ∀ s, wI (sI (sI w (P 1 i) 7 t) (P 1 i) 8 e) (P 1 j) s = wI w (P 1 j) s := fun s => by rw [pI_I, if_neg (fun y => hne y.1), pI_I, if_neg (fun y => hne y.1)]
      have e15 : mm (um (um S 19 i e) 15 i t) 15 j = mm S 15 j := by rw [mm_um, if_neg (fun z => hji z.2), mm_um_ne _ _ _ (by decide)]
      have e19 : mm (um (um S 19 i e) 15 i t) 19 j = mm S 19 j := by rw [mm_um_ne _ _ _ (by decide), mm_um, if_neg (fun z => hji z.2)]
      rw [ee, ee, ee, ee, ee, ee, ee, ee, e15, e19]
      exact ⟨q0, q1, q2, q3, q4, q5, q6⟩
  · exact r6 c k j hk
theorem C_goOn {b p i : Nat} {Q : Wd → Prop} (R : RC e0 S w q P LE LW) (hS : okS S) (hp : (rr S b)[p]? = some i)
    (hQ : ∀ w', RC e0 (um (um S 19 i (expS S b i)) 15 i (toS S b (mostS S b (prevO (rr S b) p)) i)) w' q P LE LW → FrC w w' → Q w') : wp_It_goOn e0 mi (P 1 i) (some (P 0 b)) (mm S 2 0) w Q := by
  have him := List.mem_of_getElem? hp
  obtain ⟨hb, i1, i2', i3, -⟩ := in_row hS him
  have h5i := R.2.2.2.2.1.1 i i1 i2'
  have h3b := R.2.2.1.1 b hb
  have on := h5i.2.2.2.2.2.2 i3
  have hne : P 0 b ≠ P 1 i := is_ne h3b.1 h5i.1 (by decide)
  have T : ∀ z0 : Int32, z0.toInt = min (mostS S b (prevO (rr S b) p)).toInt (mm S 4 b).toInt → wb_It_goOn_30 e0 mi Q (P 1 i) (some (P 0 b)) (mm S 2 0) z0 w := fun z0 hz => by
    unfold wb_It_goOn_30
    refine ⟨h5i.1, P 0 b, rfl, h3b.1, fun i4 e4 i5 e5 i6 e6 => ?_⟩
    rw [on.1, h3b.2.2.2.1] at e4
    rw [on.1] at e5
    have ht := to_eq hz e4 e5
    have a1 : wI (sI w (P 1 i) 7 i5) (P 0 b) 1 = mm S 4 b := by rw [pI_I, if_neg (fun y => hne y.1)]; exact h3b.2.2.1
    have a2 : wI (sI w (P 1 i) 7 i5) (P 0 b) 2 = mm S 5 b := by rw [pI_I, if_neg (fun y => hne y.1)]; exact h3b.2.2.2.1
    have a3 : wI (sI w (P 1 i) 7 i5) (P 1 i) 8 = mm S 19 i := by rw [pI_I, if_neg (fun y => by simp at y)]; exact on.2.1
    rw [a1, a2, a3] at e6
    have he : i6 = expS S b i := by rw [e6]; rfl
    obtain ⟨R', F'⟩ := RC_place R hS him i6 i5
    rw [ht, he] at R' F' ⊢
    exact hQ _ R' F'
  have lk := (R.2.2.2.2.2.1 b p i hp).1
  unfold wp_It_goOn
  refine ⟨h5i.1, ?_⟩
  rw [lk]
  cases hpr : prevO (rr S b) p with
  | none =>
    refine ⟨fun z => absurd rfl z, fun _ => ⟨P 0 b, rfl, h3b.1, ?_⟩⟩
    rw [h3b.2.2.1]
    refine T _ ?_
    rw [hpr]
    show _ = min (mm S 4 b).toInt _
    omega
  | some a =>
    have ham := prev_mem hpr
    obtain ⟨-, a1, a2, a3, -⟩ := in_row hS ham
    have h5a := R.2.2.2.2.1.1 a a1 a2
    refine ⟨fun _ => ⟨P 0 b, rfl, h3b.1, P 1 a, rfl, h5a.1, C_rear R a1 a2 a3 (fun i14 e14 => T _ ?_)⟩, fun z => absurd z (by simp)⟩
    rw [e14, h3b.2.2.1, i32_min, hpr]
    rfl
end CL
end
section
/-! THE CLASS: what scanners note; the items of a belt move -/
theorem gC_cc {l n : Nat} (h : l ≤ n) : cc (max n (l + 1)) = cc n + gC l n ∧ cs (max n (l + 1)) = cs n + gS l n := by
  rcases Nat.lt_or_eq_of_le h with z | z
  · have h1 : gC l n = 0 := by unfold gC; rw [if_neg (by have := cap_le n; omega)]
    have h2 : gS l n = 0 := by unfold gS; rw [if_neg (by have := cap_le n; omega)]
    rw [h1, h2, Nat.max_eq_left (by omega)]; exact ⟨rfl, rfl⟩
  · subst z
    rw [Nat.max_eq_right (by omega)]; exact ⟨rfl, rfl⟩
theorem uC_wait (S : St) (l : List Ed) (e : Ed) (h : (wts S).length ≤ wX S) : usC (waitS S (l ++ [e])) = usC (waitS S l) + 1 + gC (wts S ++ l).length (wX (waitS S l)) ∧ usS (waitS S (l ++ [e])) = usS (waitS S l) + 4 + gS (wts S ++ l).length (wX (waitS S l)) := by
  have hx : wX (waitS S (l ++ [e])) = max (wX (waitS S l)) ((wts S ++ l).length + 1) := by
    show max (wX S) (wts S ++ (l ++ [e])).length = max (max (wX S) (wts S ++ l).length) ((wts S ++ l).length + 1)
    rw [← List.append_assoc]; simp; omega
  have hle : (wts S ++ l).length ≤ wX (waitS S l) := by show _ ≤ max (wX S) (wts S ++ l).length; omega
  have hg := gC_cc hle
  have hlen : (wts (waitS S (l ++ [e]))).length = (wts (waitS S l)).length + 1 := by show (wts S ++ (l ++ [e])).length = (wts S ++ l).length + 1; rw [← List.append_assoc]; simp; omega
  refine ⟨?_, ?_⟩
  · show 3 * nB S + nT S + nS S + (eds S).length + (wts (waitS S (l ++ [e]))).length + cc (nB S) + cc (nT S) + cc (nS S) + cc (eds S).length + cc (wX (waitS S (l ++ [e]))) + cc (gos S).length = (3 * nB S + nT S + nS S + (eds S).length + (wts (waitS S l)).length + cc (nB S) + cc (nT S) + cc (nS S) + cc (eds S).length + cc (wX (waitS S l)) + cc (gos S).length) + 1 + gC (wts S ++ l).length (wX (waitS S l))
    rw [hlen, hx, hg.1]; omega
  · show 15 * nB S + 11 * nT S + 4 * nS S + 4 * (eds S).length + 4 * (wts (waitS S (l ++ [e]))).length + cs (nB S) + cs (nT S) + cs (nS S) + cs (eds S).length + cs (wX (waitS S (l ++ [e]))) + cs (gos S).length = (15 * nB S + 11 * nT S + 4 * nS S + 4 * (eds S).length + 4 * (wts (waitS S l)).length + cs (nB S) + cs (nT S) + cs (nS S) + cs (eds S).length + cs (wX (waitS S l)) + cs (gos S).length) + 4 + gS (wts S ++ l).length (wX (waitS S l))
    rw [hlen, hx, hg.2]; omega
section CL
variable {e0 mi q : Nat} {P : Nat → Nat → Nat} {S : St} {w : Wd} {LE LW : List (Nat × Ed)}
theorem C_waitAdd {x : Nat} {e : Ed} {nc ns : Nat} {Q : Int32 → Wd → Prop} (R : RC e0 S w q P LE LW) (hS : okS S) (hx : edAt w x e) (hl : (wts S).length < 4096) (hc : gC (wts S).length (wX S) ≤ nc) (hs : gS (wts S).length (wX S) ≤ ns)
    (hQ : ∀ w' d', RC e0 (uw S (wts S ++ [e]) (max (wX S) ((wts S).length + 1))) w' q (Pn P 4 d') LE (LW ++ [(x, e)]) → FrC w w' → Q 1 w') : wp_Al_add e0 mi (P 6 4) (some x) w nc ns Q := by
  have hlen := (LE_len R).2
  have hK : isK e0 w (P 6 4) (P 7 4) (wX S) (LW.map Prod.fst) := R.2.1.1 4 (by decide)
  refine isK_add hK ⟨1, hx.1, by decide, by decide⟩ (by omega) (by rw [hlen]; exact hc) (by rw [hlen]; exact hs) (fun w' d' hKn hd K => ?_)
  rw [hlen] at hKn
  have kN : ∀ a, bw_is w a 1 → ¬ (a = P 6 4 ∨ (0 < wX S ∧ a = P 7 4)) := fun a ha z => by
    rcases z with z | ⟨z1, z2⟩
    · exact absurd z (is_ne ha hK.1 (by decide))
    · exact absurd z2 (is_ne ha (hK.2.2.2.2.2.2 z1).2.1 (by decide))
  have h8 : c8 (uw S (wts S ++ [e]) (max (wX S) ((wts S).length + 1))) w' LE (LW ++ [(x, e)]) := by
    obtain ⟨g1, g2, g3, g4⟩ := R.2.2.2.2.2.2.2
    refine ⟨g1, by rw [List.map_append, g2]; rfl, fun y hy => edAt_kp (g3 y hy) K kN, fun y hy => ?_⟩
    rcases List.mem_append.mp hy with z | z
    · exact edAt_kp (g4 y z) K kN
    · rw [List.mem_singleton.mp z]; exact edAt_kp hx K kN
  have := RC_list (S' := uw S (wts S ++ [e]) (max (wX S) ((wts S).length + 1))) (LE' := LE) (LW' := LW ++ [(x, e)]) (k := 4) R hS (by decide) hKn hd K rfl rfl rfl rfl rfl (fun j hj hjk => ?_) rfl (fun j hj hjk => ?_) ?_ h8
  · exact hQ w' d' this.1 this.2
  · match j, hj, hjk with
    | 0, _, _ => rfl
    | 1, _, _ => rfl
    | 2, _, _ => rfl
    | 3, _, _ => rfl
    | 4, _, h => exact absurd rfl h
    | 5, _, _ => rfl
  · match j, hj, hjk with
    | 0, _, _ => rfl
    | 1, _, _ => rfl
    | 2, _, _ => rfl
    | 3, _, _ => rfl
    | 4, _, h => exact absurd rfl h
    | 5, _, _ => rfl
  · show (LW ++ [(x, e)]).map Prod.fst = LW.map Prod.fst ++ [x]
    simp
theorem rds_mono {S : St} {b i : Nat} {o n : Int32} (hw : (wts S).length ≤ wX S) : ∀ (d s : Nat), (rdsS S b i o n s).length ≤ (rdsS S b i o n (s + d)).length ∧ usC (waitS S (rdsS S b i o n s)) ≤ usC (waitS S (rdsS S b i o n (s + d))) ∧ usS (waitS S (rdsS S b i o n s)) ≤ usS (waitS S (rdsS S b i o n (s + d)))
  | 0, s => ⟨Nat.le_refl _, Nat.le_refl _, Nat.le_refl _⟩
  | d + 1, s => by
    have h := rds_mono (b := b) (i := i) (o := o) (n := n) hw d s
    rw [← Nat.add_assoc]
    have e : rdsS S b i o n (s + d + 1) = rdsS S b i o n (s + d) ++ (if mm S 22 (s + d) = nI b ∧ o < mm S 23 (s + d) ∧ mm S 23 (s + d) ≤ n then [(mm S 1 0 + mm S 24 (s + d), 0, i, s + d)] else []) := rfl
    rw [e]
    by_cases hc : mm S 22 (s + d) = nI b ∧ o < mm S 23 (s + d) ∧ mm S 23 (s + d) ≤ n
    · rw [if_pos hc]
      have := uC_wait S (rdsS S b i o n (s + d)) (mm S 1 0 + mm S 24 (s + d), 0, i, s + d) hw
      rw [this.1, this.2, List.length_append]
      omega
    · rw [if_neg hc, List.append_nil]
      exact h
theorem wait_nil {S : St} (hw : (wts S).length ≤ wX S) : waitS S [] = S := by
  unfold waitS
  rw [List.append_nil, Nat.max_eq_left hw]
  rfl
theorem wx_ge (R : RC e0 S w q P LE LW) : (wts S).length ≤ wX S := by
  have := (R.2.1.1 4 (by decide)).2.2.1
  rw [show lsx S P LE LW 4 = LW.map Prod.fst from rfl, (LE_len R).2] at this
  exact this
theorem C_notes_l {b i : Nat} {old : Int32} {P0 : Nat → Nat → Nat} {w0 : Wd} {Q : Wd → Prop} (hS : okS S) (him : i ∈ rr S b) (hw : (wts S).length ≤ wX S) (hl : (wts S ++ rdsS S b i old (mm S 15 i) (nS S)).length < 4096)
    (hQ : ∀ w' P' LW', RC e0 (waitS S (rdsS S b i old (mm S 15 i) (nS S))) w' q P' LE LW' → Pk P0 P' → FrC w0 w' → Q w') :
    ∀ (n s : Nat) (w : Wd) (P : Nat → Nat → Nat) (LW : List (Nat × Ed)) (nc ns : Nat), s + n = nS S → RC e0 (waitS S (rdsS S b i old (mm S 15 i) s)) w q P LE LW → Pk P0 P → FrC w0 w → usC (waitS S (rdsS S b i old (mm S 15 i) (nS S))) ≤ usC (waitS S (rdsS S b i old (mm S 15 i) s)) + nc → usS (waitS S (rdsS S b i old (mm S 15 i) (nS S))) ≤ usS (waitS S (rdsS S b i old (mm S 15 i) s)) + ns →
      wb_Br_noteReads_3 e0 mi Q (n + 1) q (some (P0 0 b)) (some (P0 1 i)) old (nI s) w nc ns := by
  obtain ⟨hb, i1, i2', i3, i4, i5, b8, i61⟩ := in_row hS him
  have hs4 := hS.1.2.2
  intro n
  induction n with
  | zero =>
    intro s w P LW nc ns hsn R hP F hc hs
    have : s = nS S := by omega
    subst this
    unfold wb_Br_noteReads_3
    refine ⟨R.1.1, C_size R (k := 2) (by decide) ?_⟩
    have hl2 : (lsx (waitS S (rdsS S b i old (mm S 15 i) (nS S))) P LE LW 2).length = nS S := by show ((List.range (nS S)).map (P 3)).length = nS S; simp
    rw [hl2]
    exact ⟨fun _ => hQ w P LW R hP F, fun z => absurd (nI_le (Nat.le_refl _) (by omega)) z⟩
  | succ n ih =>
    intro s w P LW nc ns hsn R hP F hc hs
    have hsS : s < nS S := by omega
    have okw : okS (waitS S (rdsS S b i old (mm S 15 i) s)) := ok_wait hS (rds_ok (by omega) s (by omega))
    have hP0 : P 0 = P0 0 := hP 0 (by decide)
    have hP1 : P 1 = P0 1 := hP 1 (by decide)
    unfold wb_Br_noteReads_3
    refine ⟨R.1.1, C_size R (k := 2) (by decide) ?_⟩
    have hl2 : (lsx (waitS S (rdsS S b i old (mm S 15 i) s)) P LE LW 2).length = nS S := by show ((List.range (nS S)).map (P 3)).length = nS S; simp
    rw [hl2]
    obtain ⟨q0, q1, q2, q3, q4⟩ := R.2.2.2.2.2.2.1 s hsS
    have h5i := R.2.2.2.2.1.1 i i1 i2'
    have h3b := R.2.2.1.1 b hb
    obtain ⟨c, c1', c2'⟩ := hS.2.2.2.2.2.2.2.1 s hsS
    have hsb : wR w (P 3 s) 1 = some (P 0 c) := q2 c c1' c2'
    have hcb : (some (P 0 c) = some (P0 0 b)) ↔ mm S 22 s = nI b := by
      rw [c2', ← hP0]
      constructor
      · intro z
        rw [R.2.2.1.2 c b c1' hb (Option.some.inj z)]
      · intro z
        rw [(nI_eq (by have := hS.1.1; omega) (by omega)).mp z]
    have next : ∀ (z0 : Int32) (r5 : Option Nat) (u : Wd) (P' : Nat → Nat → Nat) (LW' : List (Nat × Ed)) (nc' ns' : Nat), RC e0 (waitS S (rdsS S b i old (mm S 15 i) (s + 1))) u q P' LE LW' → Pk P0 P' → FrC w0 u → usC (waitS S (rdsS S b i old (mm S 15 i) (nS S))) ≤ usC (waitS S (rdsS S b i old (mm S 15 i) (s + 1))) + nc' → usS (waitS S (rdsS S b i old (mm S 15 i) (nS S))) ≤ usS (waitS S (rdsS S b i old (mm S 15 i) (s + 1))) + ns' → wb_Br_noteReads_119 e0 mi (wb_Br_noteReads_3 e0 mi Q (n + 1)) Q q (some (P0 0 b)) (some (P0 1 i)) old (nI s) r5 z0 u nc' ns' := fun z0 r5 u P' LW' nc' ns' Ru hPu Fu hcu hsu => by
      unfold wb_Br_noteReads_119
      intro i1 e1
      rw [e1, nI_1]
      exact ih (s + 1) u P' LW' nc' ns' (by omega) Ru hPu Fu hcu hsu
    have e : rdsS S b i old (mm S 15 i) (s + 1) = rdsS S b i old (mm S 15 i) s ++ (if mm S 22 s = nI b ∧ old < mm S 23 s ∧ mm S 23 s ≤ mm S 15 i then [(mm S 1 0 + mm S 24 s, 0, i, s)] else []) := rfl
    have stay : ¬ (mm S 22 s = nI b ∧ old < mm S 23 s ∧ mm S 23 s ≤ mm S 15 i) → wb_Br_noteReads_63 e0 mi (wb_Br_noteReads_3 e0 mi Q (n + 1)) Q q (some (P0 0 b)) (some (P0 1 i)) old (nI s) (some (P 3 s)) w nc ns := fun hno => by
      rw [if_neg hno, List.append_nil] at e
      unfold wb_Br_noteReads_63 wb_Br_noteReads_64
      exact ⟨fun _ => next _ _ w P LW nc ns (by rw [e]; exact R) hP F (by rw [e]; exact hc) (by rw [e]; exact hs), fun z => absurd rfl z⟩
    refine ⟨fun z => absurd z (nI_ge hsS (by omega)), fun _ => ⟨R.1.1, P 6 2, R.1.2.2.2.2 2 (by decide), (R.2.1.1 2 (by decide)).1, isK_get (R.2.1.1 2 (by decide)) (range_get hsS) ⟨fun a ha => (by cases ha; exact q0), P 3 s, rfl, q0, ?_⟩⟩⟩
    rw [hsb, q3]
    have v23 : mm (waitS S (rdsS S b i old (mm S 15 i) s)) 23 s = mm S 23 s := rfl
    rw [v23]
    refine ⟨fun z => stay (fun y => z (hcb.mpr y.1)), fun z => ⟨fun z2 => stay (fun y => absurd y.2.1 (Int32.not_lt.mpr z2)), fun z2 => ⟨P 1 i, by rw [hP1], h5i.1, ?_⟩⟩⟩
    have v15 : wI w (P 1 i) 7 = mm S 15 i := (h5i.2.2.2.2.2.2 i3).1
    rw [v15]
    refine ⟨fun z3 => stay (fun y => absurd y.2.2 (Int32.not_le.mpr z3)), fun z3 => ?_⟩
    have hyes : mm S 22 s = nI b ∧ old < mm S 23 s ∧ mm S 23 s ≤ mm S 15 i := ⟨hcb.mp z, Int32.not_le.mp z2, Int32.not_lt.mp z3⟩
    rw [if_pos hyes] at e
    have uw' := uC_wait S (rdsS S b i old (mm S 15 i) s) (mm S 1 0 + mm S 24 s, 0, i, s) hw
    rw [← e] at uw'
    have mono := rds_mono (b := b) (i := i) (o := old) (n := mm S 15 i) hw (nS S - (s + 1)) (s + 1)
    rw [show s + 1 + (nS S - (s + 1)) = nS S by omega] at mono
    have hlen : (wts S ++ rdsS S b i old (mm S 15 i) s).length < 4096 := by
      have := mono.1
      rw [e] at this
      rw [List.length_append] at hl ⊢
      rw [List.length_append] at this
      omega
    unfold wb_Br_noteReads_64
    refine ⟨fun y => absurd y (by decide), fun _ => ⟨R.1.1, C_size R (k := 4) (by decide) ?_⟩⟩
    have hl4 : (lsx (waitS S (rdsS S b i old (mm S 15 i) s)) P LE LW 4).length = (wts S ++ rdsS S b i old (mm S 15 i) s).length := (LE_len R).2
    rw [hl4]
    refine ⟨fun y => absurd y (nI_ge (b := 4096) hlen (by omega)), fun _ => ⟨R.1.1, by omega, by omega, fun x hx w18 e18 => ?_⟩⟩
    have R2 : RC e0 (waitS S (rdsS S b i old (mm S 15 i) s)) w18 q P LE LW := RC_kp R okw (X := fun _ => False) (by rw [e18]; exact Kp.rfl.new hx) (fun a ci ha z => False.elim z)
    have h7' := R2.2.2.2.2.2.2.1 s hsS
    have h5' := R2.2.2.2.2.1.1 i i1 i2'
    refine ⟨P 3 s, rfl, h7'.1, P 1 i, by rw [hP1], h5'.1, C_newEdge (v0 := wI w18 q 7 + wI w18 (P 3 s) 3) (k := 0) (i := i) (o := s) R okw hx e18 rfl h5'.2.1 h7'.2.1 (fun w25 R3 hE F3 K3 => ?_)⟩
    have vt : wI w18 q 7 + wI w18 (P 3 s) 3 = mm S 1 0 + mm S 24 s := by rw [R2.1.2.2.1, h7'.2.2.2.2]; rfl
    rw [vt] at hE
    refine ⟨P 6 4, R.1.2.2.2.2 4 (by decide), (R3.2.1.1 4 (by decide)).1, gC (wts S ++ rdsS S b i old (mm S 15 i) s).length (wX (waitS S (rdsS S b i old (mm S 15 i) s))), gS (wts S ++ rdsS S b i old (mm S 15 i) s).length (wX (waitS S (rdsS S b i old (mm S 15 i) s))), by omega, by omega, C_waitAdd R3 okw hE hlen (Nat.le_refl _) (Nat.le_refl _) (fun w34 d4 R4 F4 => ?_)⟩
    refine next _ _ w34 (Pn P 4 d4) (LW ++ [(x, (mm S 1 0 + mm S 24 s, 0, i, s))]) _ _ ?_ (hP.trans (Pk_n P 4 d4)) ((F.trans F3).trans F4) (by omega) (by omega)
    have est : uw (waitS S (rdsS S b i old (mm S 15 i) s)) (wts (waitS S (rdsS S b i old (mm S 15 i) s)) ++ [(mm S 1 0 + mm S 24 s, 0, i, s)]) (max (wX (waitS S (rdsS S b i old (mm S 15 i) s))) ((wts (waitS S (rdsS S b i old (mm S 15 i) s))).length + 1)) = waitS S (rdsS S b i old (mm S 15 i) (s + 1)) := by
      rw [e]
      show uw S ((wts S ++ rdsS S b i old (mm S 15 i) s) ++ [(mm S 1 0 + mm S 24 s, 0, i, s)]) (max (max (wX S) (wts S ++ rdsS S b i old (mm S 15 i) s).length) ((wts S ++ rdsS S b i old (mm S 15 i) s).length + 1)) = uw S (wts S ++ (rdsS S b i old (mm S 15 i) s ++ [(mm S 1 0 + mm S 24 s, 0, i, s)])) (max (wX S) (wts S ++ (rdsS S b i old (mm S 15 i) s ++ [(mm S 1 0 + mm S 24 s, 0, i, s)])).length)
      rw [← List.append_assoc]
      congr 1
      simp
      omega
    rw [est] at R4
    exact R4
end CL
end
section
/-! THE CLASS: all items of a belt move -/
theorem uC_mv1 {S : St} (hw : (wts S).length ≤ wX S) (b : Nat) (most : Int32) (i : Nat) : usC S ≤ usC (mv1S S b most i) ∧ usS S ≤ usS (mv1S S b most i) ∧ (wts (mv1S S b most i)).length ≤ wX (mv1S S b most i) := by
  have e : mv1S S b most i = waitS (um (um S 19 i (expS S b i)) 15 i (toS S b most i)) (rdsS (um (um S 19 i (expS S b i)) 15 i (toS S b most i)) b i (mm S 15 i) (toS S b most i) (nS S)) := by
    unfold mv1S; rw [rds_um (by decide), rds_um (by decide)]
  have hw1 : (wts (um (um S 19 i (expS S b i)) 15 i (toS S b most i))).length ≤ wX (um (um S 19 i (expS S b i)) 15 i (toS S b most i)) := hw
  have m := rds_mono (b := b) (i := i) (o := mm S 15 i) (n := toS S b most i) hw1 (nS S) 0
  rw [Nat.zero_add] at m
  have n0 : rdsS (um (um S 19 i (expS S b i)) 15 i (toS S b most i)) b i (mm S 15 i) (toS S b most i) 0 = [] := rfl
  rw [n0, wait_nil hw1] at m
  have u1 : usC (um (um S 19 i (expS S b i)) 15 i (toS S b most i)) = usC S := rfl
  have u2 : usS (um (um S 19 i (expS S b i)) 15 i (toS S b most i)) = usS S := rfl
  rw [u1, u2] at m
  rw [e]
  refine ⟨m.2.1, m.2.2, ?_⟩
  show (wts S ++ _).length ≤ max (wX S) (wts S ++ _).length
  exact Nat.le_max_right _ _
theorem uC_mvL {b : Nat} : ∀ (l : List Nat) (S : St) (p : Option Nat), (wts S).length ≤ wX S → usC S ≤ usC (mvLS S b p l) ∧ usS S ≤ usS (mvLS S b p l) ∧ (wts (mvLS S b p l)).length ≤ wX (mvLS S b p l)
  | [], S, p, h => by unfold mvLS; exact ⟨Nat.le_refl _, Nat.le_refl _, h⟩
  | i :: t, S, p, h => by
    unfold mvLS
    have h1 := uC_mv1 h b (mostS S b p) i
    have h2 := uC_mvL (b := b) t (mv1S S b (mostS S b p) i) (some i) h1.2.2
    exact ⟨Nat.le_trans h1.1 h2.1, Nat.le_trans h1.2.1 h2.2.1, h2.2.2⟩
section CL
variable {e0 mi q : Nat} {LE : List (Nat × Ed)}
theorem C_move_l {b : Nat} {l : List Nat} {P0 : Nat → Nat → Nat} {w0 : Wd} {Q : Wd → Prop} : ∀ (n k : Nat) (S : St) (w : Wd) (P : Nat → Nat → Nat) (LW : List (Nat × Ed)) (nc ns : Nat), k + n = l.length → rr S b = l → okS S → b < nB S → RC e0 S w q P LE LW → Pk P0 P → FrC w0 w → (wts (mvLS S b (prevS l k) (l.drop k))).length < 4096 → usC (mvLS S b (prevS l k) (l.drop k)) ≤ usC S + nc → usS (mvLS S b (prevS l k) (l.drop k)) ≤ usS S + ns →
    (∀ w' P' LW', RC e0 (mvLS S b (prevS l k) (l.drop k)) w' q P' LE LW' → Pk P0 P' → FrC w0 w' → Q w') → wb_Br_moveItems_5 e0 mi Q (n + 1) q (some (P0 0 b)) (l[k]?.map (P0 1)) w nc ns := by
  intro n
  induction n with
  | zero =>
    intro k S w P LW nc ns hk hr hS hb R hP F hwt hc hs hQ
    have hkl : k = l.length := by omega
    have hd : l.drop k = [] := by rw [hkl]; exact List.drop_length
    rw [hd] at hQ
    unfold mvLS at hQ
    unfold wb_Br_moveItems_5
    rw [List.getElem?_eq_none (by omega)]
    exact ⟨fun _ => hQ w P LW R hP F, fun z => absurd rfl z⟩
  | succ n ih =>
    intro k S w P LW nc ns hk hr hS hb R hP F hwt hc hs hQ
    have hkl : k < l.length := by omega
    obtain ⟨i, hi⟩ : ∃ i, l[k]? = some i := ⟨l[k], List.getElem?_eq_getElem hkl⟩
    have hpi : (rr S b)[k]? = some i := by rw [hr]; exact hi
    have him := List.mem_of_getElem? hpi
    obtain ⟨-, i1, i2', i3, i4, i5, b8, i61⟩ := in_row hS him
    have hd : l.drop k = i :: l.drop (k + 1) := by
      rw [List.drop_eq_getElem_cons hkl]
      have := List.getElem?_eq_getElem hkl
      rw [hi] at this
      cases this
      rfl
    have hp1 : prevS l (k + 1) = some i := by unfold prevS; rw [if_neg (by omega)]; exact hi
    rw [hd] at hQ hwt hc hs
    have em : mvLS S b (prevS l k) (i :: l.drop (k + 1)) = mvLS (mv1S S b (mostS S b (prevS l k)) i) b (prevS l (k + 1)) (l.drop (k + 1)) := by
      rw [hp1]; conv => lhs; unfold mvLS
    rw [em] at hQ hwt hc hs
    have hw := wx_ge R
    have u1 := uC_mv1 hw b (mostS S b (prevS l k)) i
    have u2 := uC_mvL (b := b) (l.drop (k + 1)) (mv1S S b (mostS S b (prevS l k)) i) (prevS l (k + 1)) u1.2.2
    have hw1 : (wts (mv1S S b (mostS S b (prevS l k)) i)).length < 4096 := Nat.lt_of_le_of_lt (wts_mvL b _ _ _) hwt
    have hP0 : P 0 = P0 0 := hP 0 (by decide)
    have hP1 : P 1 = P0 1 := hP 1 (by decide)
    have h5i := R.2.2.2.2.1.1 i i1 i2'
    unfold wb_Br_moveItems_5
    rw [hi, show (some i).map (P0 1) = some (P 1 i) by rw [hP1]; rfl]
    refine ⟨fun z => absurd z (by simp), fun _ => ⟨P 1 i, rfl, h5i.1, fun i4' e4 => ⟨R.1.1, ?_⟩⟩⟩
    rw [(h5i.2.2.2.2.2.2 i3).1] at e4
    subst e4
    rw [R.1.2.1, ← hP0]
    refine C_goOn R hS hpi (fun w7 R7 F7 => ⟨R7.1.1, usC (mv1S S b (mostS S b (prevS l k)) i) - usC S, usS (mv1S S b (mostS S b (prevS l k)) i) - usS S, by omega, by omega, ?_⟩)
    rw [hr] at R7
    have R7' : RC e0 (um (um S 19 i (expS S b i)) 15 i (toS S b (mostS S b (prevS l k)) i)) w7 q P LE LW := R7
    have ok1 : okS (um (um S 19 i (expS S b i)) 15 i (toS S b (mostS S b (prevS l k)) i)) := ok_um (ok_um hS (by unfold okSlot; decide) _ _) (by unfold okSlot; decide) _ _
    have e15 : mm (um (um S 19 i (expS S b i)) 15 i (toS S b (mostS S b (prevS l k)) i)) 15 i = toS S b (mostS S b (prevS l k)) i := mm_um_at _ _ _ _
    have er : waitS (um (um S 19 i (expS S b i)) 15 i (toS S b (mostS S b (prevS l k)) i)) (rdsS (um (um S 19 i (expS S b i)) 15 i (toS S b (mostS S b (prevS l k)) i)) b i (mm S 15 i) (mm (um (um S 19 i (expS S b i)) 15 i (toS S b (mostS S b (prevS l k)) i)) 15 i) (nS S)) = mv1S S b (mostS S b (prevS l k)) i := by
      rw [e15]; unfold mv1S; rw [rds_um (by decide), rds_um (by decide)]
    have hw' : (wts (um (um S 19 i (expS S b i)) 15 i (toS S b (mostS S b (prevS l k)) i))).length ≤ wX (um (um S 19 i (expS S b i)) 15 i (toS S b (mostS S b (prevS l k)) i)) := hw
    unfold wp_Br_noteReads
    refine ⟨nS S + 1, ?_⟩
    have G := C_notes_l (e0 := e0) (mi := mi) (q := q) (LE := LE) (S := um (um S 19 i (expS S b i)) 15 i (toS S b (mostS S b (prevS l k)) i)) (b := b) (i := i) (old := mm S 15 i) (P0 := P) (w0 := w7) (Q := fun w15 => bw_is w15 (P 1 i) 2 ∧ ∀ r22 : Option Nat, r22 = wR w15 (P 1 i) 5 → wb_Br_moveItems_5 e0 mi Q (n + 1) q (some (P 0 b)) r22 w15 (nc - (usC (mv1S S b (mostS S b (prevS l k)) i) - usC S)) (ns - (usS (mv1S S b (mostS S b (prevS l k)) i) - usS S))) ok1 him hw ?_ ?_ (nS S) 0 w7 P LW (usC (mv1S S b (mostS S b (prevS l k)) i) - usC S) (usS (mv1S S b (mostS S b (prevS l k)) i) - usS S) (by show 0 + nS S = nS S; omega) ?_ Pk.rfl FrC.rfl ?_ ?_
    · exact G
    · have := congrArg (fun T => (wts T).length) er
      show (wts S ++ rdsS (um (um S 19 i (expS S b i)) 15 i (toS S b (mostS S b (prevS l k)) i)) b i (mm S 15 i) (mm (um (um S 19 i (expS S b i)) 15 i (toS S b (mostS S b (prevS l k)) i)) 15 i) (nS S)).length < 4096
      have h2 : (wts S ++ rdsS (um (um S 19 i (expS S b i)) 15 i (toS S b (mostS S b (prevS l k)) i)) b i (mm S 15 i) (mm (um (um S 19 i (expS S b i)) 15 i (toS S b (mostS S b (prevS l k)) i)) 15 i) (nS S)).length = (wts (mv1S S b (mostS S b (prevS l k)) i)).length := this
      omega
    · intro w15 P' LW' R15 hP' F15
      have R15' : RC e0 (mv1S S b (mostS S b (prevS l k)) i) w15 q P' LE LW' := er ▸ R15
      have hP1' : P' 1 = P 1 := hP' 1 (by decide)
      have okm : okS (mv1S S b (mostS S b (prevS l k)) i) := ok_mv1 hS (by omega)
      refine ⟨?_, fun r22 e22 => ?_⟩
      · have := (R15'.2.2.2.2.1.1 i i1 i2').1
        rw [hP1'] at this; exact this
      · have lk := (R15'.2.2.2.2.2.1 b k i hpi).2
        rw [hP1'] at lk
        have hr22 : r22 = l[k + 1]?.map (P0 1) := by rw [e22, lk, ← hP1]; show ((rr S b)[k + 1]?).map (P 1) = _; rw [hr]
        rw [hr22, hP0]
        exact ih (k + 1) (mv1S S b (mostS S b (prevS l k)) i) w15 P' LW' _ _ (by omega) hr okm hb R15' (hP.trans hP') ((F.trans F7).trans F15) hwt (by omega) (by omega) hQ
    · have n0 : rdsS (um (um S 19 i (expS S b i)) 15 i (toS S b (mostS S b (prevS l k)) i)) b i (mm S 15 i) (mm (um (um S 19 i (expS S b i)) 15 i (toS S b (mostS S b (prevS l k)) i)) 15 i) 0 = [] := rfl
      rw [n0, wait_nil hw']; exact R7'
    · have n0 : rdsS (um (um S 19 i (expS S b i)) 15 i (toS S b (mostS S b (prevS l k)) i)) b i (mm S 15 i) (mm (um (um S 19 i (expS S b i)) 15 i (toS S b (mostS S b (prevS l k)) i)) 15 i) 0 = [] := rfl
      rw [n0, wait_nil hw']
      have h1 : usC (waitS (um (um S 19 i (expS S b i)) 15 i (toS S b (mostS S b (prevS l k)) i)) (rdsS (um (um S 19 i (expS S b i)) 15 i (toS S b (mostS S b (prevS l k)) i)) b i (mm S 15 i) (mm (um (um S 19 i (expS S b i)) 15 i (toS S b (mostS S b (prevS l k)) i)) 15 i) (nS S))) = usC (mv1S S b (mostS S b (prevS l k)) i) := congrArg usC er
      have h2 : usC (um (um S 19 i (expS S b i)) 15 i (toS S b (mostS S b (prevS l k)) i)) = usC S := rfl
      show usC (waitS (um (um S 19 i (expS S b i)) 15 i (toS S b (mostS S b (prevS l k)) i)) (rdsS (um (um S 19 i (expS S b i)) 15 i (toS S b (mostS S b (prevS l k)) i)) b i (mm S 15 i) (mm (um (um S 19 i (expS S b i)) 15 i (toS S b (mostS S b (prevS l k)) i)) 15 i) (nS S))) ≤ _
      rw [h1, h2]; omega
    · have n0 : rdsS (um (um S 19 i (expS S b i)) 15 i (toS S b (mostS S b (prevS l k)) i)) b i (mm S 15 i) (mm (um (um S 19 i (expS S b i)) 15 i (toS S b (mostS S b (prevS l k)) i)) 15 i) 0 = [] := rfl
      rw [n0, wait_nil hw']
      have h1 : usS (waitS (um (um S 19 i (expS S b i)) 15 i (toS S b (mostS S b (prevS l k)) i)) (rdsS (um (um S 19 i (expS S b i)) 15 i (toS S b (mostS S b (prevS l k)) i)) b i (mm S 15 i) (mm (um (um S 19 i (expS S b i)) 15 i (toS S b (mostS S b (prevS l k)) i)) 15 i) (nS S))) = usS (mv1S S b (mostS S b (prevS l k)) i) := congrArg usS er
      have h2 : usS (um (um S 19 i (expS S b i)) 15 i (toS S b (mostS S b (prevS l k)) i)) = usS S := rfl
      show usS (waitS (um (um S 19 i (expS S b i)) 15 i (toS S b (mostS S b (prevS l k)) i)) (rdsS (um (um S 19 i (expS S b i)) 15 i (toS S b (mostS S b (prevS l k)) i)) b i (mm S 15 i) (mm (um (um S 19 i (expS S b i)) 15 i (toS S b (mostS S b (prevS l k)) i)) 15 i) (nS S))) ≤ _
      rw [h1, h2]; omega
theorem C_move {S : St} {w : Wd} {P : Nat → Nat → Nat} {LW : List (Nat × Ed)} {b nc ns : Nat} {Q : Wd → Prop} (R : RC e0 S w q P LE LW) (hS : okS S) (hb : b < nB S) (hwt : (wts (moveS S b)).length < 4096) (hc : usC (moveS S b) ≤ usC S + nc) (hs : usS (moveS S b) ≤ usS S + ns)
    (hQ : ∀ w' P' LW', RC e0 (moveS S b) w' q P' LE LW' → Pk P P' → FrC w w' → Q w') : wp_Br_moveItems e0 mi q (some (P 0 b)) w nc ns Q := by
  have h3b := R.2.2.1.1 b hb
  unfold wp_Br_moveItems
  refine ⟨P 0 b, rfl, h3b.1, fun r3 e3 => ⟨(rr S b).length + 1, ?_⟩⟩
  rw [e3, h3b.2.2.2.2.2.2.1]
  exact C_move_l (l := rr S b) (P0 := P) (w0 := w) (rr S b).length 0 S w P LW nc ns (by omega) rfl hS hb R Pk.rfl FrC.rfl hwt hc hs hQ
end CL
end
section
/-! THE CLASS: what is read is told -/
theorem Pn_self (P : Nat → Nat → Nat) (k : Nat) : Pn P k (P 7 k) = P := by
  funext a j
  unfold Pn
  by_cases h : a = 7 ∧ j = k
  · rw [if_pos h, h.1, h.2]
  · rw [if_neg h]
theorem ok_lists {S : St} (h : okS S) {E L : List Ed} {n : Nat} (hE : ∀ e ∈ E, e.2.1 < 3 ∧ e.2.2.1 ≤ 60 ∧ e.2.2.2 < 8) (hL : ∀ e ∈ L, e.2.1 = 0 ∧ e.2.2.1 ≤ 60 ∧ e.2.2.2 < 8) : okS (uw (ue S E) L n) := by
  obtain ⟨h1, h2, h3, h4, h5, h6, h7, h8, h9, h10⟩ := h
  exact ⟨h1, h2, h3, h4, h5, h6, h7, h8, hL, hE⟩
section CL
variable {e0 mi q : Nat} {P : Nat → Nat → Nat} {S : St} {w : Wd} {LE LW : List (Nat × Ed)}
theorem C_waitSet {j a : Nat} {e : Ed} {y : Nat × Ed} {Q : Option Nat → Wd → Prop} (R : RC e0 S w q P LE LW) (hS : okS S) (ha : edAt w a e) (hj : LW[j]? = some y)
    (hQ : ∀ w', RC e0 (uw S ((LW.set j (a, e)).map Prod.snd) (wX S)) w' q P LE (LW.set j (a, e)) → FrC w w' → Q (some y.1) w') : wp_Al_set e0 mi (P 6 4) (nI j) (some a) w Q := by
  have hK : isK e0 w (P 6 4) (P 7 4) (wX S) (LW.map Prod.fst) := R.2.1.1 4 (by decide)
  have hjf : (LW.map Prod.fst)[j]? = some y.1 := by rw [List.getElem?_map, hj]; rfl
  have hlt := (List.getElem?_eq_some_iff.mp hj).1
  have hn : 0 < wX S := by have := hK.2.2.1; simp at this; omega
  refine isK_set hK ⟨1, ha.1, by decide, by decide⟩ hjf (fun w' hKn K hL => ?_)
  have K' : Kp (fun x => x = P 6 4 ∨ (0 < lmx S 4 ∧ x = P 7 4)) w w' := K.mono (fun b _ z => Or.inr ⟨hn, z⟩)
  have kN : ∀ b, bw_is w b 1 → ¬ b = P 7 4 := fun b hb => is_ne hb (hK.2.2.2.2.2.2 hn).2.1 (by decide)
  have h8 : c8 (uw S ((LW.set j (a, e)).map Prod.snd) (wX S)) w' LE (LW.set j (a, e)) := by
    obtain ⟨g1, g2, g3, g4⟩ := R.2.2.2.2.2.2.2
    refine ⟨g1, rfl, fun x hx => edAt_kp (g3 x hx) K kN, fun x hx => ?_⟩
    rcases List.mem_or_eq_of_mem_set hx with z | z
    · exact edAt_kp (g4 x z) K kN
    · rw [z]; exact edAt_kp ha K kN
  have := RC_list (S' := uw S ((LW.set j (a, e)).map Prod.snd) (wX S)) (LE' := LE) (LW' := LW.set j (a, e)) (k := 4) R hS (by decide) hKn (Or.inl ⟨rfl, hn⟩) K' rfl rfl rfl rfl rfl (fun j hj hjk => ?_) rfl (fun j hj hjk => ?_) ?_ h8
  · rw [Pn_self] at this
    exact hQ w' this.1 this.2
  · match j, hj, hjk with
    | 0, _, _ => rfl
    | 1, _, _ => rfl
    | 2, _, _ => rfl
    | 3, _, _ => rfl
    | 4, _, h => exact absurd rfl h
    | 5, _, _ => rfl
  · match j, hj, hjk with
    | 0, _, _ => rfl
    | 1, _, _ => rfl
    | 2, _, _ => rfl
    | 3, _, _ => rfl
    | 4, _, h => exact absurd rfl h
    | 5, _, _ => rfl
  · show (LW.set j (a, e)).map Prod.fst = (LW.map Prod.fst).set j a
    rw [List.map_set]
theorem C_waitPop {x : Nat × Ed} {Q : Option Nat → Wd → Prop} (R : RC e0 S w q P LE (LW ++ [x])) (hS : okS S)
    (hQ : ∀ w', RC e0 (uw S (LW.map Prod.snd) (wX S)) w' q P LE LW → FrC w w' → Q (some x.1) w') : wp_Al_remove e0 mi (P 6 4) (nI LW.length) w Q := by
  have hK : isK e0 w (P 6 4) (P 7 4) (wX S) ((LW ++ [x]).map Prod.fst) := R.2.1.1 4 (by decide)
  have em : (LW ++ [x]).map Prod.fst = LW.map Prod.fst ++ [x.1] := by simp
  rw [em] at hK
  have hn : 0 < wX S := by have := hK.2.2.1; simp at this; omega
  have hlen : LW.length = (LW.map Prod.fst).length := by simp
  rw [hlen]
  refine isK_pop hK (fun w' hKn K hL => ?_)
  have K' : Kp (fun x => x = P 6 4 ∨ (0 < lmx S 4 ∧ x = P 7 4)) w w' := K.mono (fun b _ z => by
    rcases z with z | z
    · exact Or.inl z
    · exact Or.inr ⟨hn, z⟩)
  have kN : ∀ b, bw_is w b 1 → ¬ (b = P 6 4 ∨ b = P 7 4) := fun b hb z => by
    rcases z with z | z
    · exact absurd z (is_ne hb hK.1 (by decide))
    · exact absurd z (is_ne hb (hK.2.2.2.2.2.2 hn).2.1 (by decide))
  have h8 : c8 (uw S (LW.map Prod.snd) (wX S)) w' LE LW := by
    obtain ⟨g1, g2, g3, g4⟩ := R.2.2.2.2.2.2.2
    exact ⟨g1, rfl, fun y hy => edAt_kp (g3 y hy) K kN, fun y hy => edAt_kp (g4 y (List.mem_append_left _ hy)) K kN⟩
  have := RC_list (S' := uw S (LW.map Prod.snd) (wX S)) (LE' := LE) (LW' := LW) (k := 4) R hS (by decide) hKn (Or.inl ⟨rfl, hn⟩) K' rfl rfl rfl rfl rfl (fun j hj hjk => ?_) rfl (fun j hj hjk => ?_) rfl h8
  · rw [Pn_self] at this
    exact hQ w' this.1 this.2
  · match j, hj, hjk with
    | 0, _, _ => rfl
    | 1, _, _ => rfl
    | 2, _, _ => rfl
    | 3, _, _ => rfl
    | 4, _, h => exact absurd rfl h
    | 5, _, _ => rfl
  · match j, hj, hjk with
    | 0, _, _ => rfl
    | 1, _, _ => rfl
    | 2, _, _ => rfl
    | 3, _, _ => rfl
    | 4, _, h => exact absurd rfl h
    | 5, _, _ => rfl
theorem nI_m1_lt {m : Nat} (h : m < 2 ^ 31) : nI m + (-1) < nI m := by
  rcases Nat.eq_zero_or_pos m with z | z
  · subst z; decide
  · have : m = (m - 1) + 1 := by omega
    rw [this, pk_m1]
    exact nI_lt (by omega) (by omega)
/-- the rest of the list is taken off, from its end -/
theorem C_pops {K : List (Nat × Ed)} {x1 : Int32} {w0 : Wd} {nc ns : Nat} {Q : Wd → Prop} (hS : okS S) (hE : LE.map Prod.snd = eds S) (hK : ∀ x ∈ K, x.2.2.1 = 0 ∧ x.2.2.2.1 ≤ 60 ∧ x.2.2.2.2 < 8) (hlen : K.length < 4096) (hQ : ∀ w', RC e0 (uw S (K.map Prod.snd) (wX S)) w' q P LE K → FrC w0 w' → Q w') :
    ∀ (n : Nat) (T : List (Nat × Ed)) (w : Wd), T.length = n → n < 4096 → (∀ x ∈ T, x.2.2.1 = 0 ∧ x.2.2.2.1 ≤ 60 ∧ x.2.2.2.2 < 8) → RC e0 (uw S ((K ++ T).map Prod.snd) (wX S)) w q P LE (K ++ T) → FrC w0 w → wb_Br_tellReads_75 e0 mi Q (n + 1) q x1 (nI K.length) (nI (K.length + n) + (-1)) w nc ns := by
  intro n
  induction n with
  | zero =>
    intro T w hT hn hT2 R F
    have : T = [] := List.length_eq_zero_iff.mp hT
    subst this
    rw [List.append_nil] at R
    unfold wb_Br_tellReads_75
    exact ⟨fun _ => hQ w R F, fun z => absurd (nI_m1_lt (by omega)) z⟩
  | succ n ih =>
    intro T w hT hn hT2 R F
    obtain ⟨T', x, rfl⟩ : ∃ T' x, T = T' ++ [x] := by
      have hne : T ≠ [] := fun z => by rw [z] at hT; simp at hT
      exact ⟨T.dropLast, T.getLast hne, (List.dropLast_concat_getLast hne).symm⟩
    have hT' : T'.length = n := by simp at hT; exact hT
    rw [← List.append_assoc] at R
    have okr : okS (uw S (((K ++ T') ++ [x]).map Prod.snd) (wX S)) := by
      have := ok_lists (S := S) (E := eds S) (L := ((K ++ T') ++ [x]).map Prod.snd) (n := wX S) hS hS.2.2.2.2.2.2.2.2.2 (fun e he => by
        obtain ⟨y, hy, rfl⟩ := List.mem_map.mp he
        rw [List.append_assoc] at hy
        rcases List.mem_append.mp hy with z | z
        · exact hK y z
        · exact hT2 y z)
      exact this
    unfold wb_Br_tellReads_75
    rw [show K.length + (n + 1) = (K.length + n) + 1 by omega, pk_m1]
    refine ⟨fun z => absurd z (nI_nlt (by omega) (by omega)), fun _ => ⟨R.1.1, P 6 4, R.1.2.2.2.2 4 (by decide), (R.2.1.1 4 (by decide)).1, ?_⟩⟩
    have hl2 : K.length + n = (K ++ T').length := by simp [hT']
    rw [hl2]
    refine C_waitPop R okr (fun w' R' F' i12 e12 => ?_)
    rw [e12, ← hl2]
    exact ih T' w' hT' (by omega) (fun y hy => hT2 y (List.mem_append_left _ hy)) R' (F.trans F')
end CL
end
section
/-! THE CLASS: what is read is told, all of it -/
def dueP (T : Int32) (x : Nat × Ed) : Bool := decide (x.2.1 = T)
def kepP (T : Int32) (x : Nat × Ed) : Bool := decide (¬ x.2.1 = T)
section CL
variable {e0 mi q : Nat} {S : St} {LE LW : List (Nat × Ed)}
theorem C_reads {P0 : Nat → Nat → Nat} {w0 : Wd} {Q : Wd → Prop} (hS : okS S) (hE : LE.map Prod.snd = eds S) (hW : LW.map Prod.snd = wts S) (hl : (LE ++ LW.filter (dueP (mm S 1 0))).length < 4096) (hl2 : LW.length < 4096)
    (hQ : ∀ w' P', RC e0 (uw (ue S ((LE ++ LW.filter (dueP (mm S 1 0))).map Prod.snd)) ((LW.filter (kepP (mm S 1 0))).map Prod.snd) (wX S)) w' q P' (LE ++ LW.filter (dueP (mm S 1 0))) (LW.filter (kepP (mm S 1 0))) → Pk P0 P' → FrC w0 w' → Q w') :
    ∀ (n k : Nat) (w : Wd) (P : Nat → Nat → Nat) (nc ns : Nat), k + n = LW.length → RC e0 (uw (ue S ((LE ++ (LW.take k).filter (dueP (mm S 1 0))).map Prod.snd)) (((LW.take k).filter (kepP (mm S 1 0)) ++ LW.drop ((LW.take k).filter (kepP (mm S 1 0))).length).map Prod.snd) (wX S)) w q P (LE ++ (LW.take k).filter (dueP (mm S 1 0))) ((LW.take k).filter (kepP (mm S 1 0)) ++ LW.drop ((LW.take k).filter (kepP (mm S 1 0))).length) → Pk P0 P → FrC w0 w →
      cc (LE ++ LW.filter (dueP (mm S 1 0))).length ≤ cc (LE ++ (LW.take k).filter (dueP (mm S 1 0))).length + nc → cs (LE ++ LW.filter (dueP (mm S 1 0))).length ≤ cs (LE ++ (LW.take k).filter (dueP (mm S 1 0))).length + ns →
      wb_Br_tellReads_12 e0 mi Q (n + 1) q (nI LW.length) (nI ((LW.take k).filter (kepP (mm S 1 0))).length) (nI k) w nc ns := by
  have eW : ∀ x ∈ LW, x.2.2.1 = 0 ∧ x.2.2.2.1 ≤ 60 ∧ x.2.2.2.2 < 8 := fun x hx => hS.2.2.2.2.2.2.2.2.1 x.2 (by rw [← hW]; exact List.mem_map.mpr ⟨x, hx, rfl⟩)
  have eE : ∀ x ∈ LE, x.2.2.1 < 3 ∧ x.2.2.2.1 ≤ 60 ∧ x.2.2.2.2 < 8 := fun x hx => hS.2.2.2.2.2.2.2.2.2 x.2 (by rw [← hE]; exact List.mem_map.mpr ⟨x, hx, rfl⟩)
  have ccm : ∀ (d n : Nat), cc n ≤ cc (n + d) ∧ cs n ≤ cs (n + d) := fun d => by
    induction d with
    | zero => intro n; exact ⟨Nat.le_refl _, Nat.le_refl _⟩
    | succ d ih =>
      intro n
      have h1 := ih n
      have h2 : cc (n + (d + 1)) = cc (n + d) + gC (n + d) (n + d) := rfl
      have h3 : cs (n + (d + 1)) = cs (n + d) + gS (n + d) (n + d) := rfl
      omega
  intro n
  induction n with
  | zero =>
    intro k w P nc ns hk R hP F hc hs
    have hkk : k = LW.length := by omega
    subst hkk
    rw [List.take_length] at R ⊢
    have hkl : (LW.filter (kepP (mm S 1 0))).length ≤ LW.length := List.length_filter_le _ _
    unfold wb_Br_tellReads_12
    refine ⟨fun _ i2 e2 => ⟨LW.length - (LW.filter (kepP (mm S 1 0))).length + 1, ?_⟩, fun z => absurd (nI_le (Nat.le_refl _) (by omega)) z⟩
    rw [e2, Int32.sub_eq_add_neg]
    have okb : okS (ue S ((LE ++ LW.filter (dueP (mm S 1 0))).map Prod.snd)) := by
      have := ok_lists (S := S) (E := (LE ++ LW.filter (dueP (mm S 1 0))).map Prod.snd) (L := wts S) (n := wX S) hS (fun e he => by
        obtain ⟨y, hy, rfl⟩ := List.mem_map.mp he
        rcases List.mem_append.mp hy with z | z
        · exact eE y z
        · have := eW y (List.mem_filter.mp z).1
          exact ⟨by omega, this.2⟩) hS.2.2.2.2.2.2.2.2.1
      exact this
    have G := C_pops (e0 := e0) (mi := mi) (q := q) (P := P) (S := ue S ((LE ++ LW.filter (dueP (mm S 1 0))).map Prod.snd)) (LE := LE ++ LW.filter (dueP (mm S 1 0))) (K := LW.filter (kepP (mm S 1 0))) (x1 := nI LW.length) (w0 := w0) (nc := nc) (ns := ns) (Q := Q) okb rfl (fun x hx => eW x (List.mem_filter.mp hx).1) (by omega) (fun w' R' F' => hQ w' P R' hP F') (LW.length - (LW.filter (kepP (mm S 1 0))).length) (LW.drop (LW.filter (kepP (mm S 1 0))).length) w (by rw [List.length_drop]) (by omega) (fun x hx => eW x (List.mem_of_mem_drop hx)) R F
    rw [show (LW.filter (kepP (mm S 1 0))).length + (LW.length - (LW.filter (kepP (mm S 1 0))).length) = LW.length by omega] at G
    exact G
  | succ n ih =>
    intro k w P nc ns hk R hP F hc hs
    have hkl0 : k < LW.length := by omega
    obtain ⟨y, hy⟩ : ∃ y, LW[k]? = some y := ⟨LW[k], List.getElem?_eq_getElem hkl0⟩
    have hym := List.mem_of_getElem? hy
    have htk : LW.take (k + 1) = LW.take k ++ [y] := by rw [List.take_add_one, hy]; rfl
    have hkl : ((LW.take k).filter (kepP (mm S 1 0))).length ≤ k := by
      refine Nat.le_trans (List.length_filter_le _ _) ?_
      rw [List.length_take]; omega
    have okk : okS (uw (ue S ((LE ++ (LW.take k).filter (dueP (mm S 1 0))).map Prod.snd)) (((LW.take k).filter (kepP (mm S 1 0)) ++ LW.drop ((LW.take k).filter (kepP (mm S 1 0))).length).map Prod.snd) (wX S)) := ok_lists hS (fun e he => by
        obtain ⟨z, hz, rfl⟩ := List.mem_map.mp he
        rcases List.mem_append.mp hz with u | u
        · exact eE z u
        · have := eW z (List.mem_of_mem_take (List.mem_filter.mp u).1)
          exact ⟨by omega, this.2⟩) (fun e he => by
        obtain ⟨z, hz, rfl⟩ := List.mem_map.mp he
        rcases List.mem_append.mp hz with u | u
        · exact eW z (List.mem_of_mem_take (List.mem_filter.mp u).1)
        · exact eW z (List.mem_of_mem_drop u))
    have hLk : ((LW.take k).filter (kepP (mm S 1 0)) ++ LW.drop ((LW.take k).filter (kepP (mm S 1 0))).length)[k]? = some y := by
      rw [List.getElem?_append_right hkl, List.getElem?_drop, show ((LW.take k).filter (kepP (mm S 1 0))).length + (k - ((LW.take k).filter (kepP (mm S 1 0))).length) = k by omega]
      exact hy
    have hE2 := R.2.2.2.2.2.2.2.2.2.2 y (List.mem_of_getElem? hLk)
    have hK4 := R.2.1.1 4 (by decide)
    have hgf : (lsx (uw (ue S ((LE ++ (LW.take k).filter (dueP (mm S 1 0))).map Prod.snd)) (((LW.take k).filter (kepP (mm S 1 0)) ++ LW.drop ((LW.take k).filter (kepP (mm S 1 0))).length).map Prod.snd) (wX S)) P (LE ++ (LW.take k).filter (dueP (mm S 1 0))) ((LW.take k).filter (kepP (mm S 1 0)) ++ LW.drop ((LW.take k).filter (kepP (mm S 1 0))).length) 4)[k]? = some y.1 := by
      show (((LW.take k).filter (kepP (mm S 1 0)) ++ LW.drop ((LW.take k).filter (kepP (mm S 1 0))).length).map Prod.fst)[k]? = some y.1
      rw [List.getElem?_map, hLk]; rfl
    unfold wb_Br_tellReads_12
    refine ⟨fun z => absurd z (nI_ge hkl0 (by omega)), fun _ => ⟨R.1.1, P 6 4, R.1.2.2.2.2 4 (by decide), hK4.1, isK_get hK4 hgf ⟨fun a ha => (by cases ha; exact hE2.1), y.1, rfl, hE2.1, R.1.1, ?_⟩⟩⟩
    have v7 : wI w q 7 = mm S 1 0 := R.1.2.2.1
    rw [hE2.2.1, v7]
    refine ⟨fun z => ⟨P 6 4, R.1.2.2.2.2 4 (by decide), hK4.1, ?_⟩, fun z => ?_⟩
    · have hkp : kepP (mm S 1 0) y = true := by unfold kepP; exact decide_eq_true z
      have hdp : dueP (mm S 1 0) y = false := by unfold dueP; exact decide_eq_false z
      have hf : (LW.take (k + 1)).filter (kepP (mm S 1 0)) = (LW.take k).filter (kepP (mm S 1 0)) ++ [y] := by
        rw [htk, List.filter_append]; congr 1; simp [hkp]
      have hg : (LW.take (k + 1)).filter (dueP (mm S 1 0)) = (LW.take k).filter (dueP (mm S 1 0)) := by
        rw [htk, List.filter_append]; simp [hdp]
      obtain ⟨u, hu⟩ : ∃ u, ((LW.take k).filter (kepP (mm S 1 0)) ++ LW.drop ((LW.take k).filter (kepP (mm S 1 0))).length)[((LW.take k).filter (kepP (mm S 1 0))).length]? = some u := by
        refine ⟨LW[((LW.take k).filter (kepP (mm S 1 0))).length]'(by omega), ?_⟩
        rw [List.getElem?_append_right (Nat.le_refl _), Nat.sub_self, List.getElem?_drop, Nat.add_zero]
        exact List.getElem?_eq_getElem (by omega)
      refine C_waitSet (a := y.1) (e := y.2) R okk hE2 hu (fun w23 R23 F23 i29 e29 => ?_)
      unfold wb_Br_tellReads_65
      intro i1 e1
      rw [e1, e29, nI_1, nI_1]
      have hset : ((LW.take k).filter (kepP (mm S 1 0)) ++ LW.drop ((LW.take k).filter (kepP (mm S 1 0))).length).set ((LW.take k).filter (kepP (mm S 1 0))).length (y.1, y.2) = ((LW.take k).filter (kepP (mm S 1 0)) ++ [y]) ++ LW.drop ((LW.take k).filter (kepP (mm S 1 0)) ++ [y]).length := by
        rw [List.set_append_right _ _ (Nat.le_refl _), Nat.sub_self, List.append_assoc]
        congr 1
        rw [drop_set0 (by omega), List.length_append]
        rfl
      rw [hset, ← hf, ← hg] at R23
      have hkl1 : ((LW.take k).filter (kepP (mm S 1 0))).length + 1 = ((LW.take (k + 1)).filter (kepP (mm S 1 0))).length := by rw [hf]; simp
      rw [hkl1]
      exact ih (k + 1) w23 P nc ns (by omega) R23 hP (F.trans F23) (by rw [hg]; exact hc) (by rw [hg]; exact hs)
    · have hkp : kepP (mm S 1 0) y = false := by unfold kepP; exact decide_eq_false (fun q => q z)
      have hdp : dueP (mm S 1 0) y = true := by unfold dueP; exact decide_eq_true z
      have hf : (LW.take (k + 1)).filter (kepP (mm S 1 0)) = (LW.take k).filter (kepP (mm S 1 0)) := by
        rw [htk, List.filter_append]; simp [hkp]
      have hg : (LW.take (k + 1)).filter (dueP (mm S 1 0)) = (LW.take k).filter (dueP (mm S 1 0)) ++ [y] := by
        rw [htk, List.filter_append]; congr 1; simp [hdp]
      have hle : (LE ++ (LW.take (k + 1)).filter (dueP (mm S 1 0))).length ≤ (LE ++ LW.filter (dueP (mm S 1 0))).length := by
        have h1 : (LW.filter (dueP (mm S 1 0))) = (LW.take (k + 1)).filter (dueP (mm S 1 0)) ++ (LW.drop (k + 1)).filter (dueP (mm S 1 0)) := by
          rw [← List.filter_append, List.take_append_drop]
        rw [List.length_append, List.length_append, h1, List.length_append]; omega
      have hl1 : (LE ++ (LW.take (k + 1)).filter (dueP (mm S 1 0))).length = (LE ++ (LW.take k).filter (dueP (mm S 1 0))).length + 1 := by
        rw [hg, ← List.append_assoc, List.length_append (as := LE ++ _)]; rfl
      have hcm := ccm ((LE ++ LW.filter (dueP (mm S 1 0))).length - (LE ++ (LW.take (k + 1)).filter (dueP (mm S 1 0))).length) (LE ++ (LW.take (k + 1)).filter (dueP (mm S 1 0))).length
      rw [show (LE ++ (LW.take (k + 1)).filter (dueP (mm S 1 0))).length + ((LE ++ LW.filter (dueP (mm S 1 0))).length - (LE ++ (LW.take (k + 1)).filter (dueP (mm S 1 0))).length) = (LE ++ LW.filter (dueP (mm S 1 0))).length by omega] at hcm
      have c1' : cc (LE ++ (LW.take (k + 1)).filter (dueP (mm S 1 0))).length = cc (LE ++ (LW.take k).filter (dueP (mm S 1 0))).length + gC (LE ++ (LW.take k).filter (dueP (mm S 1 0))).length (LE ++ (LW.take k).filter (dueP (mm S 1 0))).length := by rw [hl1]; rfl
      have c2' : cs (LE ++ (LW.take (k + 1)).filter (dueP (mm S 1 0))).length = cs (LE ++ (LW.take k).filter (dueP (mm S 1 0))).length + gS (LE ++ (LW.take k).filter (dueP (mm S 1 0))).length (LE ++ (LW.take k).filter (dueP (mm S 1 0))).length := by rw [hl1]; rfl
      have hel : (eds (uw (ue S ((LE ++ (LW.take k).filter (dueP (mm S 1 0))).map Prod.snd)) (((LW.take k).filter (kepP (mm S 1 0)) ++ LW.drop ((LW.take k).filter (kepP (mm S 1 0))).length).map Prod.snd) (wX S))).length = (LE ++ (LW.take k).filter (dueP (mm S 1 0))).length := by
        show ((LE ++ (LW.take k).filter (dueP (mm S 1 0))).map Prod.snd).length = _
        rw [List.length_map]
      refine ⟨gC (LE ++ (LW.take k).filter (dueP (mm S 1 0))).length (LE ++ (LW.take k).filter (dueP (mm S 1 0))).length, gS (LE ++ (LW.take k).filter (dueP (mm S 1 0))).length (LE ++ (LW.take k).filter (dueP (mm S 1 0))).length, by omega, by omega, C_tell R okk hE2 (by rw [hel]; omega) (by rw [hel]; exact Nat.le_refl _) (by rw [hel]; exact Nat.le_refl _) (fun w31 d3 R31 F31 => ?_)⟩
      unfold wb_Br_tellReads_65
      intro i1 e1
      rw [e1, nI_1, ← hf]
      refine ih (k + 1) w31 (Pn P 3 d3) _ _ (by omega) ?_ (hP.trans (Pk_n P 3 d3)) (F.trans F31) (by omega) (by omega)
      have est : tellS (uw (ue S ((LE ++ (LW.take k).filter (dueP (mm S 1 0))).map Prod.snd)) (((LW.take k).filter (kepP (mm S 1 0)) ++ LW.drop ((LW.take k).filter (kepP (mm S 1 0))).length).map Prod.snd) (wX S)) y.2 = uw (ue S ((LE ++ (LW.take (k + 1)).filter (dueP (mm S 1 0))).map Prod.snd)) (((LW.take (k + 1)).filter (kepP (mm S 1 0)) ++ LW.drop ((LW.take (k + 1)).filter (kepP (mm S 1 0))).length).map Prod.snd) (wX S) := by
        rw [hf, hg, ← List.append_assoc, List.map_append (l₁ := LE ++ _)]
        rfl
      rw [est] at R31
      rw [hg, ← List.append_assoc] at *
      rw [hf] at *
      exact R31
end CL
end
section
/-! THE CLASS: a second -/
theorem part_len (T : Int32) : ∀ l : List Ed, (l.filter (dueF T)).length + (l.filter (kepF T)).length = l.length
  | [] => rfl
  | e :: t => by
    have ih := part_len T t
    by_cases h : e.1 = T
    · have h1 : dueF T e = true := by unfold dueF; exact decide_eq_true h
      have h2 : kepF T e = false := by unfold kepF; exact decide_eq_false (fun q => q h)
      simp only [List.filter_cons, h1, h2, if_true, List.length_cons]
      simp
      omega
    · have h1 : dueF T e = false := by unfold dueF; exact decide_eq_false h
      have h2 : kepF T e = true := by unfold kepF; exact decide_eq_true h
      simp only [List.filter_cons, h1, h2, if_true, List.length_cons]
      simp
      omega
theorem eds_read (S : St) : eds (readS S) = eds S ++ (wts S).filter (dueF (mm S 1 0)) := (rfl)
theorem wts_read (S : St) : wts (readS S) = (wts S).filter (kepF (mm S 1 0)) := (rfl)
theorem uC_read (S : St) : usC (readS S) + cc (eds S).length = usC S + cc (eds (readS S)).length ∧ usS (readS S) + cs (eds S).length = usS S + cs (eds (readS S)).length := by
  have h1 : (eds (readS S)).length + (wts (readS S)).length = (eds S).length + (wts S).length := by
    rw [eds_read, wts_read, List.length_append]
    have := part_len (mm S 1 0) (wts S)
    omega
  refine ⟨?_, ?_⟩
  · show (3 * nB S + nT S + nS S + (eds (readS S)).length + (wts (readS S)).length + cc (nB S) + cc (nT S) + cc (nS S) + cc (eds (readS S)).length + cc (wX S) + cc (gos S).length) + _ = (3 * nB S + nT S + nS S + (eds S).length + (wts S).length + cc (nB S) + cc (nT S) + cc (nS S) + cc (eds S).length + cc (wX S) + cc (gos S).length) + _
    omega
  · show (15 * nB S + 11 * nT S + 4 * nS S + 4 * (eds (readS S)).length + 4 * (wts (readS S)).length + cs (nB S) + cs (nT S) + cs (nS S) + cs (eds (readS S)).length + cs (wX S) + cs (gos S).length) + _ = (15 * nB S + 11 * nT S + 4 * nS S + 4 * (eds S).length + 4 * (wts S).length + cs (nB S) + cs (nT S) + cs (nS S) + cs (eds S).length + cs (wX S) + cs (gos S).length) + _
    omega
theorem cc_mono : ∀ (d n : Nat), cc n ≤ cc (n + d) ∧ cs n ≤ cs (n + d)
  | 0, n => ⟨Nat.le_refl _, Nat.le_refl _⟩
  | d + 1, n => by
    have h1 := cc_mono d n
    have h2 : cc (n + (d + 1)) = cc (n + d) + gC (n + d) (n + d) := rfl
    have h3 : cs (n + (d + 1)) = cs (n + d) + gS (n + d) (n + d) := rfl
    omega
theorem uC_read_le (S : St) : usC S ≤ usC (readS S) ∧ usS S ≤ usS (readS S) := by
  have h := uC_read S
  have h2 := cc_mono ((eds (readS S)).length - (eds S).length) (eds S).length
  have h3 : (eds S).length ≤ (eds (readS S)).length := by rw [eds_read, List.length_append]; omega
  rw [show (eds S).length + ((eds (readS S)).length - (eds S).length) = (eds (readS S)).length by omega] at h2
  omega
theorem uC_out (S : St) (b : Nat) : usC S ≤ usC (outS S b) ∧ usS S ≤ usS (outS S b) := by
  unfold outS
  cases ha : atEndS S b with
  | none => exact ⟨Nat.le_refl _, Nat.le_refl _⟩
  | some i => cases hg : goesS S b i with
    | some k => simp only [hg]; exact ⟨Nat.le_refl _, Nat.le_refl _⟩
    | none =>
      simp only [hg]
      have ut := uC_tell (um (ug (um (ur S b ((rr S b).eraseIdx 0)) 13 i 1) (gos S ++ [i])) 30 0 (mm S 30 0 + (mm S 1 0 - mm S 20 i))) (mm S 1 0, 1, i, b)
      have ug' := uC_gone (um (ur S b ((rr S b).eraseIdx 0)) 13 i 1) i
      have u1 : usC (um (ug (um (ur S b ((rr S b).eraseIdx 0)) 13 i 1) (gos S ++ [i])) 30 0 (mm S 30 0 + (mm S 1 0 - mm S 20 i))) = usC S + gC (gos S).length (gos S).length := ug'.1
      have u2 : usS (um (ug (um (ur S b ((rr S b).eraseIdx 0)) 13 i 1) (gos S ++ [i])) 30 0 (mm S 30 0 + (mm S 1 0 - mm S 20 i))) = usS S + gS (gos S).length (gos S).length := ug'.2
      rw [u1, u2] at ut
      omega
theorem uC_pass (S : St) (b : Nat) : usC S ≤ usC (passS S b) ∧ usS S ≤ usS (passS S b) := by
  unfold passS
  by_cases hz : 0 < missS S b
  · rw [if_pos hz]; exact ⟨Nat.le_refl _, Nat.le_refl _⟩
  · rw [if_neg hz]
    cases hg : giverS S b b with
    | none => exact ⟨Nat.le_refl _, Nat.le_refl _⟩
    | some k => cases hr : rr S (k / 2) with
      | nil => simp only [hr]; exact ⟨Nat.le_refl _, Nat.le_refl _⟩
      | cons j t =>
        simp only [hr]
        have ut := uC_tell (comeS (um (ur S (k / 2) t) 9 k (mm S 9 k + 1)) j b) (mm S 1 0, 2, j, b)
        have u1 : usC (comeS (um (ur S (k / 2) t) 9 k (mm S 9 k + 1)) j b) = usC S := rfl
        have u2 : usS (comeS (um (ur S (k / 2) t) 9 k (mm S 9 k + 1)) j b) = usS S := rfl
        rw [u1, u2] at ut
        omega
theorem wX_out (S : St) (b : Nat) : wX (outS S b) = wX S := by
  unfold outS
  cases ha : atEndS S b with
  | none => rfl
  | some i => cases hg : goesS S b i with
    | none => simp only [hg] <;> rfl
    | some k => simp only [hg] <;> rfl
theorem wX_pass (S : St) (b : Nat) : wX (passS S b) = wX S := by
  unfold passS
  by_cases hz : 0 < missS S b
  · rw [if_pos hz]
  · rw [if_neg hz]
    cases hg : giverS S b b with
    | none => rfl
    | some k => cases hr : rr S (k / 2) with
      | nil => simp only [hr] <;> rfl
      | cons j t => simp only [hr] <;> rfl
theorem uC_exch (S : St) (b : Nat) : usC S ≤ usC (exchS S b) ∧ usS S ≤ usS (exchS S b) ∧ wX (exchS S b) = wX S := by
  have h1 := uC_out S b
  have h2 := uC_pass (outS S b) b
  unfold exchS
  exact ⟨by omega, by omega, by rw [wX_pass, wX_out]⟩
theorem uC_exAll : ∀ (n : Nat) (S : St), usC S ≤ usC (exAllS S n) ∧ usS S ≤ usS (exAllS S n) ∧ wX (exAllS S n) = wX S
  | 0, S => ⟨Nat.le_refl _, Nat.le_refl _, rfl⟩
  | n + 1, S => by
    by_cases hz : mm S 6 n = 0
    · rw [exAll_no hz]; exact uC_exAll n S
    · rw [exAll_go hz]
      have h1 := uC_exch S n
      have h2 := uC_exAll n (exchS S n)
      exact ⟨by omega, by omega, by rw [h2.2.2, h1.2.2]⟩
theorem uC_mvAll {S : St} (hw : (wts S).length ≤ wX S) : ∀ (n : Nat), (wts (mvAllS S n)).length ≤ wX (mvAllS S n) ∧ usC S ≤ usC (mvAllS S n) ∧ usS S ≤ usS (mvAllS S n)
  | 0 => ⟨hw, Nat.le_refl _, Nat.le_refl _⟩
  | n + 1 => by
    have h1 := uC_mvAll hw n
    by_cases hz : mm (mvAllS S n) 6 n = 0
    · rw [mvAll_no hz]; exact h1
    · rw [mvAll_go hz]
      have h2 := uC_mvL (b := n) (rr (mvAllS S n) n) (mvAllS S n) none h1.1
      unfold moveS
      exact ⟨h2.2.2, by omega, by omega⟩
theorem uC_mvStep {S : St} (hw : (wts S).length ≤ wX S) : ∀ (d n : Nat), usC (mvAllS S n) ≤ usC (mvAllS S (n + d)) ∧ usS (mvAllS S n) ≤ usS (mvAllS S (n + d))
  | 0, n => ⟨Nat.le_refl _, Nat.le_refl _⟩
  | d + 1, n => by
    have h0 := uC_mvStep hw d n
    rw [← Nat.add_assoc]
    have h1 := uC_mvAll hw (n + d)
    by_cases hz : mm (mvAllS S (n + d)) 6 (n + d) = 0
    · rw [mvAll_no hz]; exact h0
    · rw [mvAll_go hz]
      have h2 := uC_mvL (b := n + d) (rr (mvAllS S (n + d)) (n + d)) (mvAllS S (n + d)) none h1.1
      unfold moveS
      omega
section CL
variable {e0 mi q : Nat} {P : Nat → Nat → Nat} {S : St} {w : Wd} {LE LW : List (Nat × Ed)}
theorem C_tellReads {nc ns : Nat} {Q : Wd → Prop} (R : RC e0 S w q P LE LW) (hS : okS S) (hl : (eds (readS S)).length < 4096) (hl2 : (wts S).length < 4096) (hc : usC (readS S) ≤ usC S + nc) (hs : usS (readS S) ≤ usS S + ns)
    (hQ : ∀ w' P' LE' LW', RC e0 (readS S) w' q P' LE' LW' → Pk P P' → FrC w w' → Q w') : wp_Br_tellReads e0 mi q w nc ns Q := by
  obtain ⟨hE, hW, -, -⟩ := R.2.2.2.2.2.2.2
  have hlW : LW.length = (wts S).length := by rw [← hW]; simp
  have fd : (LW.filter (dueP (mm S 1 0))).map Prod.snd = (wts S).filter (dueF (mm S 1 0)) := by rw [← hW, List.filter_map]; rfl
  have fk : (LW.filter (kepP (mm S 1 0))).map Prod.snd = (wts S).filter (kepF (mm S 1 0)) := by rw [← hW, List.filter_map]; rfl
  have eE : (LE ++ LW.filter (dueP (mm S 1 0))).map Prod.snd = eds (readS S) := by rw [List.map_append, hE, fd, eds_read]
  have lE : (LE ++ LW.filter (dueP (mm S 1 0))).length = (eds (readS S)).length := by rw [← eE]; simp
  have lE0 : LE.length = (eds S).length := by rw [← hE]; simp
  have ur' := uC_read S
  unfold wp_Br_tellReads
  refine ⟨R.1.1, C_size R (k := 4) (by decide) ⟨LW.length + 1, ?_⟩⟩
  have hl4 : (lsx S P LE LW 4).length = LW.length := by show (LW.map Prod.fst).length = _; simp
  rw [hl4]
  have G := C_reads (e0 := e0) (mi := mi) (q := q) (S := S) (LE := LE) (LW := LW) (P0 := P) (w0 := w) (Q := Q) hS hE hW (by rw [lE]; exact hl) (by rw [hlW]; exact hl2) ?_ LW.length 0 w P nc ns (by omega) ?_ Pk.rfl FrC.rfl ?_ ?_
  · exact G
  · intro w' P' R' hP' F'
    have : uw (ue S ((LE ++ LW.filter (dueP (mm S 1 0))).map Prod.snd)) ((LW.filter (kepP (mm S 1 0))).map Prod.snd) (wX S) = readS S := by rw [eE, fk]; rfl
    rw [this] at R'
    exact hQ w' P' _ _ R' hP' F'
  · rw [List.take_zero, List.filter_nil, List.filter_nil, List.append_nil, List.nil_append, List.length_nil, List.drop_zero, hE, hW]
    exact R
  · rw [List.take_zero, List.filter_nil, List.append_nil, lE, lE0]; omega
  · rw [List.take_zero, List.filter_nil, List.append_nil, lE, lE0]; omega
theorem C_mvAll {P0 : Nat → Nat → Nat} {w0 : Wd} {Q : Wd → Prop} (hS : okS S) (hw : (wts S).length ≤ wX S) (hwt : (wts (mvAllS S (nB S))).length < 4096)
    (hQ : ∀ w' P' LW', RC e0 (mvAllS S (nB S)) w' q P' LE LW' → Pk P0 P' → FrC w0 w' → Q w') : ∀ (n k : Nat) (w : Wd) (P : Nat → Nat → Nat) (LW : List (Nat × Ed)) (nc ns : Nat), k + n = nB S → RC e0 (mvAllS S k) w q P LE LW → Pk P0 P → FrC w0 w → usC (mvAllS S (nB S)) ≤ usC (mvAllS S k) + nc → usS (mvAllS S (nB S)) ≤ usS (mvAllS S k) + ns → wb_Br_passSecond_65 e0 mi Q (n + 1) q (nI k) w nc ns := by
  have hb8 := hS.1.1
  intro n
  induction n with
  | zero =>
    intro k w P LW nc ns hk R hP F hc hs
    have hkk : k = nB S := by omega
    subst hkk
    unfold wb_Br_passSecond_65
    refine ⟨R.1.1, C_size R (k := 0) (by decide) ?_⟩
    rw [lsx0, (nB_mvAll S (nB S)).1]
    exact ⟨fun _ => hQ w P LW R hP F, fun z => absurd (nI_le (Nat.le_refl _) (by omega)) z⟩
  | succ n ih =>
    intro k w P LW nc ns hk R hP F hc hs
    have hkB : k < nB (mvAllS S k) := by rw [(nB_mvAll S k).1]; omega
    have okk := ok_mvAll hS k
    have h3 := R.2.2.1.1 k hkB
    unfold wb_Br_passSecond_65
    refine ⟨R.1.1, C_size R (k := 0) (by decide) ?_⟩
    rw [lsx0, (nB_mvAll S k).1]
    have next : ∀ (u : Wd) (P' : Nat → Nat → Nat) (LW' : List (Nat × Ed)) (r : Option Nat) (nc' ns' : Nat), RC e0 (mvAllS S (k + 1)) u q P' LE LW' → Pk P0 P' → FrC w0 u → usC (mvAllS S (nB S)) ≤ usC (mvAllS S (k + 1)) + nc' → usS (mvAllS S (nB S)) ≤ usS (mvAllS S (k + 1)) + ns' → wb_Br_passSecond_100 e0 mi (wb_Br_passSecond_65 e0 mi Q (n + 1)) Q q (nI k) r u nc' ns' := fun u P' LW' r nc' ns' Ru hPu Fu hcu hsu => by
      unfold wb_Br_passSecond_100
      intro i1 e1
      rw [e1, nI_1]
      exact ih (k + 1) u P' LW' nc' ns' (by omega) Ru hPu Fu hcu hsu
    refine ⟨fun z => absurd z (nI_ge (by omega) (by omega)), fun _ => ⟨R.1.1, P 6 0, R.1.2.2.2.2 0 (by decide), (R.2.1.1 0 (by decide)).1, C_beltAt R hkB ⟨fun a ha => (by cases ha; exact h3.1), P 0 k, rfl, h3.1, ?_⟩⟩⟩
    rw [h3.2.2.2.2.1]
    have mono := uC_mvStep hw (nB S - (k + 1)) (k + 1)
    rw [show k + 1 + (nB S - (k + 1)) = nB S by omega] at mono
    have mono0 := uC_mvStep hw 1 k
    refine ⟨fun z => ?_, fun z => ⟨R.1.1, usC (mvAllS S (k + 1)) - usC (mvAllS S k), usS (mvAllS S (k + 1)) - usS (mvAllS S k), by omega, by omega, ?_⟩⟩
    · have e1 := mvAll_no z
      exact next w P LW _ nc ns (by rw [e1]; exact R) hP F (by rw [e1]; exact hc) (by rw [e1]; exact hs)
    · have e1 := mvAll_go z
      have hw1 : (wts (moveS (mvAllS S k) k)).length < 4096 := by
        rw [← e1]
        have := wts_mvAll S (nB S - (k + 1)) (k + 1)
        rw [show k + 1 + (nB S - (k + 1)) = nB S by omega] at this
        omega
      refine C_move R okk hkB hw1 (by rw [← e1]; omega) (by rw [← e1]; omega) (fun w' P' LW' R' hP' F' => next w' P' LW' _ _ _ (by rw [e1]; exact R') (hP.trans hP') (F.trans F') (by omega) (by omega))
end CL
end
section
/-! SECONDS, OF BOTH -/
section CL
variable {e0 mi q : Nat}
theorem C_exAll {P0 : Nat → Nat → Nat} {w0 : Wd} {Q : Wd → Prop} : ∀ (n : Nat) (S : St) (w : Wd) (P : Nat → Nat → Nat) (LE LW : List (Nat × Ed)) (nc ns : Nat), okS S → n ≤ nB S → (wts S).length ≤ wX S → (eds (exAllS S n)).length < 4096 → (wts (mvAllS (exAllS S n) (nB S))).length < 4096 →
    (∀ w' P' LE' LW', RC e0 (mvAllS (exAllS S n) (nB S)) w' q P' LE' LW' → Pk P0 P' → FrC w0 w' → Q w') → RC e0 S w q P LE LW → Pk P0 P → FrC w0 w → usC (mvAllS (exAllS S n) (nB S)) ≤ usC S + nc → usS (mvAllS (exAllS S n) (nB S)) ≤ usS S + ns → wb_Br_passSecond_24 e0 mi Q (n + 1) q (nI n + (-1)) w nc ns := by
  intro n
  induction n with
  | zero =>
    intro S w P LE LW nc ns hS hn hw he hwt hQ R hP F hc hs
    unfold wb_Br_passSecond_24
    have hb8 := hS.1.1
    refine ⟨fun _ => ⟨nB S + 1, ?_⟩, fun z => absurd (by decide) z⟩
    exact C_mvAll (P0 := P0) (w0 := w0) hS hw hwt (fun w' P' LW' R' hP' F' => hQ w' P' LE LW' R' hP' F') (nB S) 0 w P LW nc ns (by omega) R hP F hc hs
  | succ n ih =>
    intro S w P LE LW nc ns hS hn hw he hwt hQ R hP F hc hs
    have hb8 := hS.1.1
    have hnB : n < nB S := by omega
    have h3 := R.2.2.1.1 n hnB
    unfold wb_Br_passSecond_24
    rw [pk_m1]
    refine ⟨fun z => absurd z (nI_pos (by omega)), fun _ => ⟨R.1.1, P 6 0, R.1.2.2.2.2 0 (by decide), (R.2.1.1 0 (by decide)).1, C_beltAt R hnB ⟨fun a ha => (by cases ha; exact h3.1), P 0 n, rfl, h3.1, ?_⟩⟩⟩
    rw [h3.2.2.2.2.1]
    refine ⟨fun z => ?_, fun z => ⟨R.1.1, usC (outS S n) - usC S, usS (outS S n) - usS S, ?_⟩⟩
    · have e1 := exAll_no z
      rw [e1] at he hwt hQ hc hs
      unfold wb_Br_passSecond_57
      intro i1 ei1
      rw [ei1]
      exact ih S w P LE LW nc ns hS (by omega) hw he hwt hQ R hP F hc hs
    · have e1 := exAll_go z
      rw [e1] at he hwt hQ hc hs
      have u1 := uC_out S n
      have u2 := uC_pass (outS S n) n
      have u3 := uC_exAll n (exchS S n)
      have hlw : wts (exAllS (exchS S n) n) = wts S := by rw [(eds_exAll n (exchS S n)).2.1, (eds_exch S n).2.1]
      have hwx : wX (exAllS (exchS S n) n) = wX S := by rw [u3.2.2, (uC_exch S n).2.2]
      have u4 := uC_mvAll (S := exAllS (exchS S n) n) (by rw [hlw, hwx]; exact hw) (nB S)
      have ee : exchS S n = passS (outS S n) n := rfl
      rw [← ee] at u2
      have l1 := eds_out S n
      have l2 := (eds_pass (outS S n) n).1
      rw [← ee] at l2
      have l3 := (eds_exAll n (exchS S n)).1
      have okO := ok_out hS hnB
      refine ⟨by omega, by omega, C_out R hS hnB (by omega) (by omega) (by omega) (fun w20 P1 LE1 R1 hP1 F1 => ?_)⟩
      refine ⟨R1.1.1, usC (exchS S n) - usC (outS S n), usS (exchS S n) - usS (outS S n), by omega, by omega, ?_⟩
      have hP10 : P1 0 = P 0 := hP1 0 (by decide)
      rw [← hP10]
      refine C_pass R1 okO (by rw [nB_out]; exact hnB) (by omega) (by rw [← ee]; omega) (by rw [← ee]; omega) (fun w28 P2 LE2 R2 hP2 F2 => ?_)
      unfold wb_Br_passSecond_57
      intro i1 ei1
      rw [ei1]
      refine ih (exchS S n) w28 P2 LE2 LW _ _ (ok_exch hS hnB) (by rw [nB_exch]; omega) (by rw [(eds_exch S n).2.1, (uC_exch S n).2.2]; exact hw) he ?_ ?_ R2 ((hP.trans hP1).trans hP2) ((F.trans F1).trans F2) ?_ ?_
      · rw [nB_exch]; exact hwt
      · rw [nB_exch]; exact hQ
      · rw [nB_exch]; omega
      · rw [nB_exch]; omega
variable {P : Nat → Nat → Nat} {S : St} {w : Wd} {LE LW : List (Nat × Ed)}
theorem C_sec {nc ns : Nat} {Q : Wd → Prop} (R : RC e0 S w q P LE LW) (hS : okS S) (h1 : (eds S).length + (wts S).length < 3000) (h2 : (eds (secS S)).length < 4096) (h3 : (wts (secS S)).length < 4096) (hE : (eds (exAllS (readS (tickS S)) (nB S))).length < 4096) (hc : usC (secS S) ≤ usC S + nc) (hs : usS (secS S) ≤ usS S + ns)
    (hQ : ∀ w' P' LE' LW', RC e0 (secS S) w' q P' LE' LW' → Pk P P' → FrC w w' → Q w') : wp_Br_passSecond e0 mi q w nc ns Q := by
  have hw := wx_ge R
  unfold wp_Br_passSecond
  rw [R.1.2.2.1]
  obtain ⟨R1, F1⟩ := RC_time R hS (mm S 1 0 + 1)
  have ok1 := ok_tick hS
  have okr := ok_read ok1
  have u1 := uC_read_le (tickS S)
  have u0 : usC (tickS S) = usC S := rfl
  have u0' : usS (tickS S) = usS S := rfl
  rw [u0, u0'] at u1
  have u2 := uC_exAll (nB S) (readS (tickS S))
  have hwr : (wts (readS (tickS S))).length ≤ wX (readS (tickS S)) := by
    rw [wts_read]
    show _ ≤ wX S
    refine Nat.le_trans (List.length_filter_le _ _) hw
  have hlw : wts (exAllS (readS (tickS S)) (nB S)) = wts (readS (tickS S)) := (eds_exAll (nB S) (readS (tickS S))).2.1
  have u3 := uC_mvAll (S := exAllS (readS (tickS S)) (nB S)) (by rw [hlw, u2.2.2]; exact hwr) (nB S)
  have es : secS S = mvAllS (exAllS (readS (tickS S)) (nB S)) (nB S) := rfl
  rw [← es] at u3
  have lr : (eds (readS (tickS S))).length < 4096 := by
    rw [eds_read, List.length_append]
    have := List.length_filter_le (dueF (mm (tickS S) 1 0)) (wts (tickS S))
    show (eds S).length + _ < 4096
    have e : wts (tickS S) = wts S := rfl
    rw [e] at this ⊢
    omega
  refine ⟨R.1.1, usC (readS (tickS S)) - usC S, usS (readS (tickS S)) - usS S, by omega, by omega, C_tellReads (S := tickS S) R1 ok1 lr (by show (wts S).length < 4096; omega) (by rw [u0]; omega) (by rw [u0']; omega) (fun w3 P1 LE1 LW1 R2 hP1 F2 => ⟨R2.1.1, C_size R2 (k := 0) (by decide) (fun i19 e19 => ⟨nB S + 1, ?_⟩)⟩)⟩
  rw [lsx0] at e19
  have e19' : i19 = nI (nB S) + (-1) := by rw [e19, Int32.sub_eq_add_neg]; rfl
  rw [e19']
  exact C_exAll (P0 := P) (w0 := w) (nB S) (readS (tickS S)) w3 P1 LE1 LW1 _ _ okr (Nat.le_refl _) hwr hE h3 hQ R2 hP1 (F1.trans F2) (show usC (secS S) ≤ usC (readS (tickS S)) + (nc - (usC (readS (tickS S)) - usC S)) by omega) (show usS (secS S) ≤ usS (readS (tickS S)) + (ns - (usS (readS (tickS S)) - usS S)) by omega)
end CL
end
section
/-! STEPS, OF BOTH -/
theorem eds_mvL (b : Nat) : ∀ (l : List Nat) (U : St) (p : Option Nat), eds (mvLS U b p l) = eds U
  | [], U, p => rfl
  | i :: t, U, p => by unfold mvLS; rw [eds_mvL b t]; rfl
theorem eds_mvAll (T : St) : ∀ n, eds (mvAllS T n) = eds T
  | 0 => rfl
  | n + 1 => by
    by_cases hz : mm (mvAllS T n) 6 n = 0
    · rw [mvAll_no hz]; exact eds_mvAll T n
    · rw [mvAll_go hz]; unfold moveS; rw [eds_mvL]; exact eds_mvAll T n
theorem ok_sec {S : St} (h : okS S) : okS (secS S) ∧ nB (secS S) = nB S := by
  have okr := ok_read (ok_tick h)
  have h1 := ok_exAll (nB S) (readS (tickS S)) okr (Nat.le_refl _)
  unfold secS
  exact ⟨ok_mvAll h1.1 (nB S), (nB_mvAll _ _).1.trans h1.2⟩
theorem ok_steps {S : St} (h : okS S) : ∀ n, okS (stepsS S n) ∧ nB (stepsS S n) = nB S
  | 0 => ⟨h, rfl⟩
  | n + 1 => by
    have h1 := ok_steps h n
    have h2 := ok_sec h1.1
    exact ⟨h2.1, h2.2.trans h1.2⟩
theorem uC_sec {S : St} (hw : (wts S).length ≤ wX S) : usC S ≤ usC (secS S) ∧ usS S ≤ usS (secS S) ∧ (wts (secS S)).length ≤ wX (secS S) := by
  have u1 := uC_read_le (tickS S)
  have u0 : usC (tickS S) = usC S := rfl
  have u0' : usS (tickS S) = usS S := rfl
  rw [u0, u0'] at u1
  have u2 := uC_exAll (nB S) (readS (tickS S))
  have hwr : (wts (readS (tickS S))).length ≤ wX (readS (tickS S)) := by
    rw [wts_read]
    show _ ≤ wX S
    refine Nat.le_trans (List.length_filter_le _ _) hw
  have hlw : wts (exAllS (readS (tickS S)) (nB S)) = wts (readS (tickS S)) := (eds_exAll (nB S) (readS (tickS S))).2.1
  have u3 := uC_mvAll (S := exAllS (readS (tickS S)) (nB S)) (by rw [hlw, u2.2.2]; exact hwr) (nB S)
  unfold secS
  exact ⟨by omega, by omega, u3.1⟩
theorem uC_steps {S : St} (hw : (wts S).length ≤ wX S) : ∀ n, (wts (stepsS S n)).length ≤ wX (stepsS S n)
  | 0 => hw
  | n + 1 => (uC_sec (uC_steps hw n)).2.2
theorem uC_stepsM {S : St} (hw : (wts S).length ≤ wX S) : ∀ (d n : Nat), usC (stepsS S n) ≤ usC (stepsS S (n + d)) ∧ usS (stepsS S n) ≤ usS (stepsS S (n + d))
  | 0, n => ⟨Nat.le_refl _, Nat.le_refl _⟩
  | d + 1, n => by
    have h1 := uC_stepsM hw d n
    have h2 := uC_sec (uC_steps hw (n + d))
    have e : stepsS S (n + (d + 1)) = secS (stepsS S (n + d)) := rfl
    rw [e]
    omega
/-- never too many edges, in all these seconds -/
def fewS (S : St) (n : Nat) : Prop := ∀ j, j ≤ n → (eds (stepsS S j)).length + (wts (stepsS S j)).length < 2900
section CL
variable {e0 mi q : Nat} {S : St}
theorem C_steps_l {P0 : Nat → Nat → Nat} {w0 : Wd} {k : Nat} {Q : Int32 → Wd → Prop} {X : String → Wd → Prop} (hS : okS S) (hw : (wts S).length ≤ wX S) (hf : fewS S k) (hk : k ≤ 100)
    (hQ : ∀ w' P' LE' LW', RC e0 (stepsS S k) w' q P' LE' LW' → Pk P0 P' → FrC w0 w' → Q (nI (eds (stepsS S k)).length - nI (eds S).length) w') : ∀ (n j : Nat) (w : Wd) (P : Nat → Nat → Nat) (LE LW : List (Nat × Ed)) (nc ns : Nat), j + n = k → RC e0 (stepsS S j) w q P LE LW → Pk P0 P → FrC w0 w → usC (stepsS S k) ≤ usC (stepsS S j) + nc → usS (stepsS S k) ≤ usS (stepsS S j) + ns → wb_Br_step_17 e0 mi Q X (n + 1) q (nI k) (nI (eds S).length) (nI j) w nc ns := by
  intro n
  induction n with
  | zero =>
    intro j w P LE LW nc ns hj R hP F hc hs
    have hjk : j = k := by omega
    subst hjk
    unfold wb_Br_step_17
    refine ⟨fun _ => ⟨R.1.1, C_size R (k := 3) (by decide) ?_⟩, fun z => absurd (nI_le (Nat.le_refl _) (by omega)) z⟩
    have : (lsx (stepsS S j) P LE LW 3).length = (eds (stepsS S j)).length := (LE_len R).1
    rw [this]
    exact hQ w P LE LW R hP F
  | succ n ih =>
    intro j w P LE LW nc ns hj R hP F hc hs
    have okj := (ok_steps hS j).1
    have f1 := hf j (by omega)
    have f2 := hf (j + 1) (by omega)
    have e1 : stepsS S (j + 1) = secS (stepsS S j) := rfl
    rw [e1] at f2
    have m1 := uC_sec (uC_steps hw j)
    have m2 := uC_stepsM hw (k - (j + 1)) (j + 1)
    rw [show j + 1 + (k - (j + 1)) = k by omega, e1] at m2
    have hE : (eds (exAllS (readS (tickS (stepsS S j))) (nB (stepsS S j)))).length < 4096 := by
      have : eds (secS (stepsS S j)) = eds (exAllS (readS (tickS (stepsS S j))) (nB (stepsS S j))) := by unfold secS; rw [eds_mvAll]
      rw [← this]; omega
    unfold wb_Br_step_17
    refine ⟨fun z => absurd z (nI_ge (by omega) (by omega)), fun _ => ⟨R.1.1, usC (secS (stepsS S j)) - usC (stepsS S j), usS (secS (stepsS S j)) - usS (stepsS S j), by omega, by omega, C_sec R okj (by omega) (by omega) (by omega) hE (by omega) (by omega) (fun w' P' LE' LW' R' hP' F' i20 e20 => ?_)⟩⟩
    rw [e20, nI_1]
    exact ih (j + 1) w' P' LE' LW' _ _ (by omega) R' (hP.trans hP') (F.trans F') (by rw [e1]; omega) (by rw [e1]; omega)
end CL
section MO
variable {e0 mi m : Nat} {A : Nat → Nat} {S : St}
theorem M_steps_l {w0 : Wd} {k : Nat} {Q : Int32 → Wd → Prop} (hS : okS S) (hf : fewS S k) (hk : k ≤ 100)
    (hQ : ∀ w', RM (stepsS S k) w' m A → FM m A w0 w' → Q (nI (eds (stepsS S k)).length - nI (eds S).length) w') : ∀ (n j : Nat) (w : Wd), j + n = k → RM (stepsS S j) w m A → FM m A w0 w → wb_Mo_step_35 e0 mi Q (n + 1) m (nI k) (nI (eds S).length) (nI j) w := by
  intro n
  induction n with
  | zero =>
    intro j w hj R F
    have hjk : j = k := by omega
    subst hjk
    unfold wb_Mo_step_35
    refine ⟨fun _ => ⟨R.1.1, ?_⟩, fun z => absurd (nI_le (Nat.le_refl _) (by omega)) z⟩
    have l27 : wI w m 27 = nI (eds (stepsS S j)).length := R.2.2.1.2.2.2.2.1
    rw [l27]
    exact hQ w R F
  | succ n ih =>
    intro j w hj R F
    have okj := (ok_steps hS j).1
    have f1 := hf j (by omega)
    have f2 := hf (j + 1) (by omega)
    have e1 : stepsS S (j + 1) = secS (stepsS S j) := rfl
    rw [e1] at f2
    refine M_sec okj R F (by omega) (by omega) (by omega) (fun w' R' F' i3 e3 => ?_) (nI_ge (by omega) (by omega))
    rw [e3, nI_1]
    exact ih (j + 1) w' (by omega) R' F'
theorem M_step {w : Wd} {x1 : Int32} {Q : Int32 → Wd → Prop} (h : RM S w m A) (hS : okS S) (h1 : ¬ rng x1 0 100 → Q 0 (sI w m 0 1)) (hf : ∀ k, k ≤ 100 → x1 = nI k → fewS S k)
    (h0 : ∀ k, k ≤ 100 → x1 = nI k → ∀ w', RM (stepsS S k) w' m A → FM m A (sI w m 0 0) w' → Q (nI (eds (stepsS S k)).length - nI (eds S).length) w') : wp_Mo_step e0 mi m x1 w Q := by
  have hm := h.1.1
  unfold wp_Mo_step wb_Mo_step_16
  refine mo_in (fun z => ⟨fun z => absurd z (by decide), fun _ => ⟨m, rfl, hm, hm, fun _ i5 e5 => ?_, fun z => absurd (by rw [cd_e]; decide) z⟩⟩) (fun z => ⟨fun _ => ⟨m, rfl, hm, hm, fun z => absurd z (cd_1 w m), fun _ => h1 z⟩, fun z => absurd rfl z⟩)
  have R0 := RM_code h 0
  have l27 : wI (sI w m 0 0) m 27 = nI (eds S).length := R0.2.2.1.2.2.2.2.1
  rw [l27] at e5
  subst e5
  obtain ⟨k, hk, hx⟩ := nI_of2 (M := 100) (n := 100) (by decide) z.1 (Int32.not_lt.mp z.2)
  subst hx
  exact ⟨k + 1, M_steps_l (w0 := sI w m 0 0) hS (hf k hk rfl) hk (h0 k hk rfl) k 0 _ (by omega) R0 FM.rfl⟩
end MO
end
