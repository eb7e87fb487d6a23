section
/-! THE STATE BEHIND BOTH: numbers by the slots of the reference, the rows of items, edges, what waits, what went out, how many belts, items, scanners there are, how long the waiting ever were -/
abbrev Ed : Type := Int32 × Nat × Nat × Nat
abbrev St : Type := (Nat → Nat → Int32) × (Nat → List Nat) × List Ed × List Ed × List Nat × Nat × Nat × Nat × Nat
def mm (S : St) : Nat → Nat → Int32 := S.1
def rr (S : St) : Nat → List Nat := S.2.1
def eds (S : St) : List Ed := S.2.2.1
def wts (S : St) : List Ed := S.2.2.2.1
def gos (S : St) : List Nat := S.2.2.2.2.1
def nB (S : St) : Nat := S.2.2.2.2.2.1
def nT (S : St) : Nat := S.2.2.2.2.2.2.1
def nS (S : St) : Nat := S.2.2.2.2.2.2.2.1
def wX (S : St) : Nat := S.2.2.2.2.2.2.2.2
def um (S : St) (k i : Nat) (v : Int32) : St := (va_up (mm S) k (va_up (mm S k) i v), rr S, eds S, wts S, gos S, nB S, nT S, nS S, wX S)
def ur (S : St) (b : Nat) (l : List Nat) : St := (mm S, va_up (rr S) b l, eds S, wts S, gos S, nB S, nT S, nS S, wX S)
def ue (S : St) (l : List Ed) : St := (mm S, rr S, l, wts S, gos S, nB S, nT S, nS S, wX S)
def uw (S : St) (l : List Ed) (n : Nat) : St := (mm S, rr S, eds S, l, gos S, nB S, nT S, nS S, n)
def ug (S : St) (l : List Nat) : St := (mm S, rr S, eds S, wts S, l, nB S, nT S, nS S, wX S)
def uB (S : St) (n : Nat) : St := (mm S, rr S, eds S, wts S, gos S, n, nT S, nS S, wX S)
def uT (S : St) (n : Nat) : St := (mm S, rr S, eds S, wts S, gos S, nB S, n, nS S, wX S)
def uS (S : St) (n : Nat) : St := (mm S, rr S, eds S, wts S, gos S, nB S, nT S, n, wX S)
theorem mm_um (S : St) (k i : Nat) (v : Int32) (k' i' : Nat) : mm (um S k i v) k' i' = if k' = k ∧ i' = i then v else mm S k' i' := by
  show va_up (mm S) k (va_up (mm S k) i v) k' i' = _
  unfold va_up
  by_cases h : k' = k
  · subst h
    by_cases h2 : i' = i <;> simp [h2]
  · simp [h]
theorem rr_um (S : St) (k i : Nat) (v : Int32) : rr (um S k i v) = rr S := (rfl)
theorem eds_um (S : St) (k i : Nat) (v : Int32) : eds (um S k i v) = eds S := (rfl)
theorem wts_um (S : St) (k i : Nat) (v : Int32) : wts (um S k i v) = wts S := (rfl)
theorem gos_um (S : St) (k i : Nat) (v : Int32) : gos (um S k i v) = gos S := (rfl)
theorem nB_um (S : St) (k i : Nat) (v : Int32) : nB (um S k i v) = nB S := (rfl)
theorem nT_um (S : St) (k i : Nat) (v : Int32) : nT (um S k i v) = nT S := (rfl)
theorem nS_um (S : St) (k i : Nat) (v : Int32) : nS (um S k i v) = nS S := (rfl)
theorem wX_um (S : St) (k i : Nat) (v : Int32) : wX (um S k i v) = wX S := (rfl)
theorem mm_ur (S : St) (b : Nat) (l : List Nat) : mm (ur S b l) = mm S := (rfl)
theorem rr_ur (S : St) (b : Nat) (l : List Nat) (b' : Nat) : rr (ur S b l) b' = if b' = b then l else rr S b' := (rfl)
theorem eds_ur (S : St) (b : Nat) (l : List Nat) : eds (ur S b l) = eds S := (rfl)
theorem wts_ur (S : St) (b : Nat) (l : List Nat) : wts (ur S b l) = wts S := (rfl)
theorem gos_ur (S : St) (b : Nat) (l : List Nat) : gos (ur S b l) = gos S := (rfl)
theorem nB_ur (S : St) (b : Nat) (l : List Nat) : nB (ur S b l) = nB S := (rfl)
theorem nT_ur (S : St) (b : Nat) (l : List Nat) : nT (ur S b l) = nT S := (rfl)
theorem nS_ur (S : St) (b : Nat) (l : List Nat) : nS (ur S b l) = nS S := (rfl)
theorem wX_ur (S : St) (b : Nat) (l : List Nat) : wX (ur S b l) = wX S := (rfl)
theorem mm_ue (S : St) (l : List Ed) : mm (ue S l) = mm S := (rfl)
theorem rr_ue (S : St) (l : List Ed) : rr (ue S l) = rr S := (rfl)
theorem eds_ue (S : St) (l : List Ed) : eds (ue S l) = l := (rfl)
theorem wts_ue (S : St) (l : List Ed) : wts (ue S l) = wts S := (rfl)
theorem gos_ue (S : St) (l : List Ed) : gos (ue S l) = gos S := (rfl)
theorem nB_ue (S : St) (l : List Ed) : nB (ue S l) = nB S := (rfl)
theorem nT_ue (S : St) (l : List Ed) : nT (ue S l) = nT S := (rfl)
theorem nS_ue (S : St) (l : List Ed) : nS (ue S l) = nS S := (rfl)
theorem wX_ue (S : St) (l : List Ed) : wX (ue S l) = wX S := (rfl)
theorem mm_uw (S : St) (l : List Ed) (n : Nat) : mm (uw S l n) = mm S := (rfl)
theorem rr_uw (S : St) (l : List Ed) (n : Nat) : rr (uw S l n) = rr S := (rfl)
theorem eds_uw (S : St) (l : List Ed) (n : Nat) : eds (uw S l n) = eds S := (rfl)
theorem wts_uw (S : St) (l : List Ed) (n : Nat) : wts (uw S l n) = l := (rfl)
theorem gos_uw (S : St) (l : List Ed) (n : Nat) : gos (uw S l n) = gos S := (rfl)
theorem nB_uw (S : St) (l : List Ed) (n : Nat) : nB (uw S l n) = nB S := (rfl)
theorem nT_uw (S : St) (l : List Ed) (n : Nat) : nT (uw S l n) = nT S := (rfl)
theorem nS_uw (S : St) (l : List Ed) (n : Nat) : nS (uw S l n) = nS S := (rfl)
theorem wX_uw (S : St) (l : List Ed) (n : Nat) : wX (uw S l n) = n := (rfl)
theorem mm_ug (S : St) (l : List Nat) : mm (ug S l) = mm S := (rfl)
theorem rr_ug (S : St) (l : List Nat) : rr (ug S l) = rr S := (rfl)
theorem eds_ug (S : St) (l : List Nat) : eds (ug S l) = eds S := (rfl)
theorem wts_ug (S : St) (l : List Nat) : wts (ug S l) = wts S := (rfl)
theorem gos_ug (S : St) (l : List Nat) : gos (ug S l) = l := (rfl)
theorem nB_ug (S : St) (l : List Nat) : nB (ug S l) = nB S := (rfl)
theorem nT_ug (S : St) (l : List Nat) : nT (ug S l) = nT S := (rfl)
theorem nS_ug (S : St) (l : List Nat) : nS (ug S l) = nS S := (rfl)
theorem wX_ug (S : St) (l : List Nat) : wX (ug S l) = wX S := (rfl)
theorem mm_uB (S : St) (n : Nat) : mm (uB S n) = mm S := (rfl)
theorem rr_uB (S : St) (n : Nat) : rr (uB S n) = rr S := (rfl)
theorem eds_uB (S : St) (n : Nat) : eds (uB S n) = eds S := (rfl)
theorem wts_uB (S : St) (n : Nat) : wts (uB S n) = wts S := (rfl)
theorem gos_uB (S : St) (n : Nat) : gos (uB S n) = gos S := (rfl)
theorem nB_uB (S : St) (n : Nat) : nB (uB S n) = n := (rfl)
theorem nT_uB (S : St) (n : Nat) : nT (uB S n) = nT S := (rfl)
theorem nS_uB (S : St) (n : Nat) : nS (uB S n) = nS S := (rfl)
theorem wX_uB (S : St) (n : Nat) : wX (uB S n) = wX S := (rfl)
theorem mm_uT (S : St) (n : Nat) : mm (uT S n) = mm S := (rfl)
theorem rr_uT (S : St) (n : Nat) : rr (uT S n) = rr S := (rfl)
theorem eds_uT (S : St) (n : Nat) : eds (uT S n) = eds S := (rfl)
theorem wts_uT (S : St) (n : Nat) : wts (uT S n) = wts S := (rfl)
theorem gos_uT (S : St) (n : Nat) : gos (uT S n) = gos S := (rfl)
theorem nB_uT (S : St) (n : Nat) : nB (uT S n) = nB S := (rfl)
theorem nT_uT (S : St) (n : Nat) : nT (uT S n) = n := (rfl)
theorem nS_uT (S : St) (n : Nat) : nS (uT S n) = nS S := (rfl)
theorem wX_uT (S : St) (n : Nat) : wX (uT S n) = wX S := (rfl)
theorem mm_uS (S : St) (n : Nat) : mm (uS S n) = mm S := (rfl)
theorem rr_uS (S : St) (n : Nat) : rr (uS S n) = rr S := (rfl)
theorem eds_uS (S : St) (n : Nat) : eds (uS S n) = eds S := (rfl)
theorem wts_uS (S : St) (n : Nat) : wts (uS S n) = wts S := (rfl)
theorem gos_uS (S : St) (n : Nat) : gos (uS S n) = gos S := (rfl)
theorem nB_uS (S : St) (n : Nat) : nB (uS S n) = nB S := (rfl)
theorem nT_uS (S : St) (n : Nat) : nT (uS S n) = nT S := (rfl)
theorem nS_uS (S : St) (n : Nat) : nS (uS S n) = n := (rfl)
theorem wX_uS (S : St) (n : Nat) : wX (uS S n) = wX S := (rfl)
/-! WHAT EACH CALL DOES WITH IT -/
def comeS (S : St) (i b : Nat) : St := ur (um (um (um (um (um S 14 i (nI b)) 15 i 0) 17 i 0) 18 i 0) 19 i 0) b (rr S b ++ [i])
def tellS (S : St) (e : Ed) : St := ue S (eds S ++ [e])
def rearS (S : St) (i : Nat) : Int32 := mm S 15 i - mm S 16 i
def missS (S : St) (b : Nat) : Int32 := match (rr S b).getLast? with
  | none => 0
  | some i => mm S 2 0 - rearS S i
def atEndS (S : St) (b : Nat) : Option Nat := match rr S b with
  | [] => none
  | i :: _ => if mm S 15 i = mm S 4 b then some i else none
/-- the way (2 b or 2 b + 1) by which an item of the belt b goes -/
def goesS (S : St) (b i : Nat) : Option Nat := if mm S 7 (2 * b + (mm S 17 i).toNatClampNeg) = -1 then (if mm S 7 (2 * b) = -1 then none else some (2 * b)) else some (2 * b + (mm S 17 i).toNatClampNeg)
def outS (S : St) (b : Nat) : St := match atEndS S b with
  | none => S
  | some i => match goesS S b i with
    | some _ => S
    | none => tellS (um (ug (um (ur S b ((rr S b).eraseIdx 0)) 13 i 1) (gos S ++ [i])) 30 0 (mm S 30 0 + (mm S 1 0 - mm S 20 i))) (mm S 1 0, 1, i, b)
def candS (S : St) (b x : Nat) : Option Nat := if mm S 6 x = 0 then none else match atEndS S x with
  | none => none
  | some j => match goesS S x j with
    | none => none
    | some k => if mm S 7 k = nI b then some k else none
def dueS (S : St) (k : Nat) (best : Option Nat) : Prop := match best with
  | none => True
  | some j => mm S 9 k * mm S 8 j < mm S 9 j * mm S 8 k
noncomputable def bestS (S : St) (c best : Option Nat) : Option Nat := match c with
  | none => best
  | some k => match best with
    | none => some k
    | some j => if mm S 9 k * mm S 8 j < mm S 9 j * mm S 8 k then some k else some j
noncomputable def giverS (S : St) (b : Nat) : Nat → Option Nat
  | 0 => none
  | x + 1 => bestS S (candS S b x) (giverS S b x)
noncomputable def passS (S : St) (b : Nat) : St := if 0 < missS S b then S else match giverS S b b with
  | none => S
  | some k => match rr S (k / 2) with
    | [] => S
    | j :: t => tellS (comeS (um (ur S (k / 2) t) 9 k (mm S 9 k + 1)) j b) (mm S 1 0, 2, j, b)
noncomputable def exchS (S : St) (b : Nat) : St := passS (outS S b) b
noncomputable def exAllS (S : St) : Nat → St
  | 0 => S
  | n + 1 => exAllS (if mm S 6 n = 0 then S else exchS S n) n
def toS (S : St) (b : Nat) (most : Int32) (i : Nat) : Int32 :=
  let t0 := mm S 15 i + mm S 5 b
  let t1 := if mm S 4 b < t0 then mm S 4 b else t0
  let t2 := if most < t1 then most else t1
  if t2 < mm S 15 i then mm S 15 i else t2
def expS (S : St) (b i : Nat) : Int32 := if mm S 4 b < mm S 19 i + mm S 5 b then mm S 4 b else mm S 19 i + mm S 5 b
/-- the reads by the scanners below n -/
def rdsS (S : St) (b i : Nat) (old new : Int32) : Nat → List Ed
  | 0 => []
  | s + 1 => rdsS S b i old new s ++ (if mm S 22 s = nI b ∧ old < mm S 23 s ∧ mm S 23 s ≤ new then [(mm S 1 0 + mm S 24 s, 0, i, s)] else [])
def waitS (S : St) (l : List Ed) : St := uw S (wts S ++ l) (max (wX S) (wts S ++ l).length)
def mv1S (S : St) (b : Nat) (most : Int32) (i : Nat) : St := waitS (um (um S 19 i (expS S b i)) 15 i (toS S b most i)) (rdsS S b i (mm S 15 i) (toS S b most i) (nS S))
def mostS (S : St) (b : Nat) : Option Nat → Int32
  | none => mm S 4 b
  | some a => rearS S a - mm S 2 0
def mvLS (S : St) (b : Nat) : Option Nat → List Nat → St
  | _, [] => S
  | p, i :: t => mvLS (mv1S S b (mostS S b p) i) b (some i) t
def moveS (S : St) (b : Nat) : St := mvLS S b none (rr S b)
def mvAllS (S : St) : Nat → St
  | 0 => S
  | n + 1 => if mm (mvAllS S n) 6 n = 0 then mvAllS S n else moveS (mvAllS S n) n
def tickS (S : St) : St := um S 1 0 (mm S 1 0 + 1)
def readS (S : St) : St := uw (ue S (eds S ++ (wts S).filter (fun e => decide (e.1 = mm S 1 0)))) ((wts S).filter (fun e => decide (¬ e.1 = mm S 1 0))) (wX S)
noncomputable def secS (S : St) : St := mvAllS (exAllS (readS (tickS S)) (nB S)) (nB S)
noncomputable def stepsS (S : St) : Nat → St
  | 0 => S
  | n + 1 => secS (stepsS S n)
end
section
/-! THE REFERENCE HOLDS THE STATE -/
/-- a long of the reference's rows of edges -/
def pk (e : Ed) : Int64 := (((e.1.toInt64 <<< ((32 : Int32).toInt64 &&& 63)) ||| ((nI e.2.1).toInt64 <<< ((24 : Int32).toInt64 &&& 63))) ||| ((nI e.2.2.1).toInt64 <<< ((8 : Int32).toInt64 &&& 63))) ||| (nI e.2.2.2).toInt64
def isInt (k : Nat) : Prop := k ∈ [4, 5, 6, 7, 8, 9, 13, 14, 15, 16, 17, 18, 19, 20, 22, 23, 24]
theorem isInt_kd {k : Nat} (h : isInt k) : 0 < mKd k ∧ k ≠ 10 ∧ k ≠ 11 ∧ k ≠ 31 ∧ k ≠ 26 ∧ k ≠ 28 ∧ k < 32 := by
  have : ∀ k ∈ [4, 5, 6, 7, 8, 9, 13, 14, 15, 16, 17, 18, 19, 20, 22, 23, 24], 0 < mKd k ∧ k ≠ 10 ∧ k ≠ 11 ∧ k ≠ 31 ∧ k ≠ 26 ∧ k ≠ 28 ∧ k < 32 := by decide
  exact this k h
def RM (S : St) (w : Wd) (m : Nat) (A : Nat → Nat) : Prop :=
  isM w m A ∧
  (wI w m 1 = mm S 1 0 ∧ wI w m 2 = mm S 2 0 ∧ wI w m 30 = mm S 30 0) ∧
  (wI w m 3 = nI (nB S) ∧ wI w m 12 = nI (nT S) ∧ wI w m 21 = nI (nS S) ∧ wI w m 25 = nI (wts S).length ∧ wI w m 27 = nI (eds S).length ∧ wI w m 29 = nI (gos S).length) ∧
  (∀ k, isInt k → ∀ i, i < mLn k → wI w (A k) i = mm S k i) ∧
  (∀ b, b < 8 → wI w (A 10) b = nI (rr S b).length ∧ ∀ j i, (rr S b)[j]? = some i → wI w (A 11) (60 * b + j) = nI i) ∧
  (∀ j e, (wts S)[j]? = some e → wJ w (A 26) j = pk e) ∧ (∀ j e, (eds S)[j]? = some e → wJ w (A 28) j = pk e) ∧ (∀ j i, (gos S)[j]? = some i → wI w (A 31) j = nI i)
/-- a store into one of the rows of ints -/
theorem RM_um {S : St} {w : Wd} {m : Nat} {A : Nat → Nat} (h : RM S w m A) {k i : Nat} (hk : isInt k) (v : Int32) : RM (um S k i v) (sI w (A k) i v) m A := by
  obtain ⟨h1, ⟨a1, a2, a3⟩, ⟨b1, b2, b3, b4, b5, b6⟩, h4, h5, h6, h7, h8⟩ := h
  obtain ⟨k1, k2, k3, k4, k5, k6, k7⟩ := isInt_kd hk
  have ns : ∀ s, wI (sI w (A k) i v) m s = wI w m s := fun s => sc_a h1 k1 i v s
  have no : ∀ j, 0 < mKd j → j ≠ k → ∀ s, wI (sI w (A k) i v) (A j) s = wI w (A j) s := fun j hj hn s => by rw [pI_I, if_neg (fun z => isM_nn h1 hj k1 hn z.1)]
  have mo : ∀ j s, j ≠ k → mm (um S k i v) j s = mm S j s := fun j s hn => by rw [mm_um, if_neg (fun z => hn z.1)]
  have kne : ∀ j, ¬ isInt j → j ≠ k := fun j hj z => hj (z ▸ hk)
  have i1 : ¬ isInt 1 := by unfold isInt; decide
  have i2 : ¬ isInt 2 := by unfold isInt; decide
  have i30 : ¬ isInt 30 := by unfold isInt; decide
  refine ⟨isM_st h1 _ _ _, ⟨?_, ?_, ?_⟩, ⟨?_, ?_, ?_, ?_, ?_, ?_⟩, fun j hj s hs => ?_, fun b hb => ⟨?_, fun j x hx => ?_⟩, ?_, ?_, fun j x hx => ?_⟩
  · rw [ns, mo 1 0 (kne 1 i1)]; exact a1
  · rw [ns, mo 2 0 (kne 2 i2)]; exact a2
  · rw [ns, mo 30 0 (kne 30 i30)]; exact a3
  · rw [ns]; exact b1
  · rw [ns]; exact b2
  · rw [ns]; exact b3
  · rw [ns]; exact b4
  · rw [ns]; exact b5
  · rw [ns]; exact b6
  · by_cases hjk : j = k
    · subst hjk
      rw [pI_I, mm_um]
      by_cases hsi : s = i
      · rw [if_pos ⟨rfl, hsi⟩, if_pos ⟨rfl, hsi⟩]
      · rw [if_neg (fun z => hsi z.2), if_neg (fun z => hsi z.2)]; exact h4 j hj s hs
    · rw [no j (isInt_kd hj).1 hjk, mo j s hjk]; exact h4 j hj s hs
  · rw [no 10 (by decide) (Ne.symm k2)]; exact (h5 b hb).1
  · rw [no 11 (by decide) (Ne.symm k3)]; exact (h5 b hb).2 j x hx
  · exact h6
  · exact h7
  · rw [no 31 (by decide) (Ne.symm k4)]; exact h8 j x hx
/-- a store into one of the numbers: what it changes of the state, by the slot -/
theorem RM_sc {S S' : St} {w : Wd} {m : Nat} {A : Nat → Nat} (h : RM S w m A) {s : Nat} {v : Int32} (hr : rr S' = rr S) (he : eds S' = eds S) (hw : wts S' = wts S) (hg : gos S' = gos S)
    (hi : ∀ k, isInt k → mm S' k = mm S k)
    (t1 : (if s = 1 then v else mm S 1 0) = mm S' 1 0) (t2 : (if s = 2 then v else mm S 2 0) = mm S' 2 0) (t30 : (if s = 30 then v else mm S 30 0) = mm S' 30 0)
    (t3 : (if s = 3 then v else nI (nB S)) = nI (nB S')) (t12 : (if s = 12 then v else nI (nT S)) = nI (nT S')) (t21 : (if s = 21 then v else nI (nS S)) = nI (nS S'))
    (t25 : s ≠ 25) (t27 : s ≠ 27) (t29 : s ≠ 29) : RM S' (sI w m s v) m A := by
  obtain ⟨h1, ⟨a1, a2, a3⟩, ⟨b1, b2, b3, b4, b5, b6⟩, h4, h5, h6, h7, h8⟩ := h
  have ns : ∀ j, wI (sI w m s v) m j = if j = s then v else wI w m j := fun j => by
    rw [pI_I]
    by_cases hj : j = s
    · rw [if_pos ⟨rfl, hj⟩, if_pos hj]
    · rw [if_neg (fun z => hj z.2), if_neg hj]
  have no : ∀ j, 0 < mKd j → ∀ x, wI (sI w m s v) (A j) x = wI w (A j) x := fun j hj x => by rw [pI_I, if_neg (fun z => isM_ne h1 hj z.1)]
  have sw : ∀ (j : Nat) (x y z : Int32), x = y → (if s = j then v else y) = z → (if j = s then v else x) = z := fun j x y z hxy hz => by
    rw [← hz, hxy]
    by_cases hj : j = s
    · rw [if_pos hj, if_pos hj.symm]
    · rw [if_neg hj, if_neg (fun q => hj q.symm)]
  refine ⟨isM_st h1 _ _ _, ⟨?_, ?_, ?_⟩, ⟨?_, ?_, ?_, ?_, ?_, ?_⟩, fun j hj x hx => ?_, fun b hb => ⟨?_, fun j x hx => ?_⟩, ?_, ?_, fun j x hx => ?_⟩
  · rw [ns]; exact sw _ _ _ _ a1 t1
  · rw [ns]; exact sw _ _ _ _ a2 t2
  · rw [ns]; exact sw _ _ _ _ a3 t30
  · rw [ns]; exact sw _ _ _ _ b1 t3
  · rw [ns]; exact sw _ _ _ _ b2 t12
  · rw [ns]; exact sw _ _ _ _ b3 t21
  · rw [ns, if_neg (Ne.symm t25), hw]; exact b4
  · rw [ns, if_neg (Ne.symm t27), he]; exact b5
  · rw [ns, if_neg (Ne.symm t29), hg]; exact b6
  · rw [no j (isInt_kd hj).1, hi j hj]; exact h4 j hj x hx
  · rw [no 10 (by decide), hr]; exact (h5 b hb).1
  · rw [no 11 (by decide)]; rw [hr] at hx; exact (h5 b hb).2 j x hx
  · rw [hw]; exact h6
  · rw [he]; exact h7
  · rw [no 31 (by decide)]; rw [hg] at hx; exact h8 j x hx
theorem RM_code {S : St} {w : Wd} {m : Nat} {A : Nat → Nat} (h : RM S w m A) (v : Int32) : RM S (sI w m 0 v) m A :=
  RM_sc h rfl rfl rfl rfl (fun _ _ => rfl) rfl rfl rfl rfl rfl rfl (by decide) (by decide) (by decide)
theorem mm_um_ne (S : St) {k : Nat} (i : Nat) (v : Int32) {j : Nat} (h : j ≠ k) : mm (um S k i v) j = mm S j := by
  funext x; rw [mm_um, if_neg (fun z => h z.1)]
theorem mm_um_at (S : St) (k i : Nat) (v : Int32) : mm (um S k i v) k i = v := by rw [mm_um, if_pos ⟨rfl, rfl⟩]
theorem RM_time {S : St} {w : Wd} {m : Nat} {A : Nat → Nat} (h : RM S w m A) (v : Int32) : RM (um S 1 0 v) (sI w m 1 v) m A :=
  RM_sc h rfl rfl rfl rfl (fun k hk => mm_um_ne S 0 v (fun z => by subst z; exact absurd hk (by unfold isInt; decide))) (by rw [mm_um_at]; rfl) (by rw [mm_um_ne S 0 v (by decide)]; rfl) (by rw [mm_um_ne S 0 v (by decide)]; rfl) rfl rfl rfl (by decide) (by decide) (by decide)
theorem RM_gap {S : St} {w : Wd} {m : Nat} {A : Nat → Nat} (h : RM S w m A) (v : Int32) : RM (um S 2 0 v) (sI w m 2 v) m A :=
  RM_sc h rfl rfl rfl rfl (fun k hk => mm_um_ne S 0 v (fun z => by subst z; exact absurd hk (by unfold isInt; decide))) (by rw [mm_um_ne S 0 v (by decide)]; rfl) (by rw [mm_um_at]; rfl) (by rw [mm_um_ne S 0 v (by decide)]; rfl) rfl rfl rfl (by decide) (by decide) (by decide)
theorem RM_sum {S : St} {w : Wd} {m : Nat} {A : Nat → Nat} (h : RM S w m A) (v : Int32) : RM (um S 30 0 v) (sI w m 30 v) m A :=
  RM_sc h rfl rfl rfl rfl (fun k hk => mm_um_ne S 0 v (fun z => by subst z; exact absurd hk (by unfold isInt; decide))) (by rw [mm_um_ne S 0 v (by decide)]; rfl) (by rw [mm_um_ne S 0 v (by decide)]; rfl) (by rw [mm_um_at]; rfl) rfl rfl rfl (by decide) (by decide) (by decide)
theorem RM_nB {S : St} {w : Wd} {m : Nat} {A : Nat → Nat} (h : RM S w m A) (n : Nat) : RM (uB S n) (sI w m 3 (nI n)) m A :=
  RM_sc h rfl rfl rfl rfl (fun _ _ => rfl) rfl rfl rfl rfl rfl rfl (by decide) (by decide) (by decide)
theorem RM_nT {S : St} {w : Wd} {m : Nat} {A : Nat → Nat} (h : RM S w m A) (n : Nat) : RM (uT S n) (sI w m 12 (nI n)) m A :=
  RM_sc h rfl rfl rfl rfl (fun _ _ => rfl) rfl rfl rfl rfl rfl rfl (by decide) (by decide) (by decide)
theorem RM_nS {S : St} {w : Wd} {m : Nat} {A : Nat → Nat} (h : RM S w m A) (n : Nat) : RM (uS S n) (sI w m 21 (nI n)) m A :=
  RM_sc h rfl rfl rfl rfl (fun _ _ => rfl) rfl rfl rfl rfl rfl rfl (by decide) (by decide) (by decide)
end
section
/-! THE REFERENCE: rows of items, edges, what waits, what went out -/
theorem RM_push {S : St} {w : Wd} {m : Nat} {A : Nat → Nat} (h : RM S w m A) {b i : Nat} (hb : b < 8) (hl : (rr S b).length < 60) (hr : ∀ b, b < 8 → (rr S b).length ≤ 60) : RM (ur S b (rr S b ++ [i])) (sI (sI w (A 11) (60 * b + (rr S b).length) (nI i)) (A 10) b (nI ((rr S b).length + 1))) m A := by
  obtain ⟨h1, ⟨a1, a2, a3⟩, ⟨b1, b2, b3, b4, b5, b6⟩, h4, h5, h6, h7, h8⟩ := h
  have ns : ∀ s, wI (sI (sI w (A 11) (60 * b + (rr S b).length) (nI i)) (A 10) b (nI ((rr S b).length + 1))) m s = wI w m s := fun s => by
    rw [pI_I, if_neg (fun z => isM_ne h1 (k := 10) (by decide) z.1.symm), pI_I, if_neg (fun z => isM_ne h1 (k := 11) (by decide) z.1.symm)]
  have no : ∀ j, 0 < mKd j → j ≠ 10 → j ≠ 11 → ∀ s, wI (sI (sI w (A 11) (60 * b + (rr S b).length) (nI i)) (A 10) b (nI ((rr S b).length + 1))) (A j) s = wI w (A j) s := fun j hj n1 n2 s => by
    rw [pI_I, if_neg (fun z => isM_nn h1 hj (by decide) n1 z.1), pI_I, if_neg (fun z => isM_nn h1 hj (by decide) n2 z.1)]
  refine ⟨isM_st (isM_st h1 _ _ _) _ _ _, ⟨?_, ?_, ?_⟩, ⟨?_, ?_, ?_, ?_, ?_, ?_⟩, fun j hj s hs => ?_, fun c hc => ⟨?_, fun j x hx => ?_⟩, h6, h7, fun j x hx => ?_⟩
  · rw [ns]; exact a1
  · rw [ns]; exact a2
  · rw [ns]; exact a3
  · rw [ns]; exact b1
  · rw [ns]; exact b2
  · rw [ns]; exact b3
  · rw [ns]; exact b4
  · rw [ns]; exact b5
  · rw [ns]; exact b6
  · obtain ⟨k1, k2, k3, -⟩ := isInt_kd hj
    rw [no j k1 k2 k3]; exact h4 j hj s hs
  · rw [pI_I, rr_ur]
    by_cases hcb : c = b
    · rw [if_pos ⟨rfl, hcb⟩, if_pos hcb]; simp
    · rw [if_neg (fun z => hcb z.2), if_neg hcb, pI_I, if_neg (fun z => isM_nn h1 (j := 10) (k := 11) (by decide) (by decide) (by decide) z.1)]
      exact (h5 c hc).1
  · rw [pI_I, if_neg (fun z => isM_nn h1 (j := 11) (k := 10) (by decide) (by decide) (by decide) z.1), pI_I]
    rw [rr_ur] at hx
    by_cases hcb : c = b
    · rw [if_pos hcb] at hx
      subst hcb
      by_cases hj : j = (rr S c).length
      · rw [if_pos ⟨rfl, by omega⟩]
        subst hj
        simp at hx
        rw [hx]
      · have hlt := (List.getElem?_eq_some_iff.mp hx).1
        simp at hlt
        rw [if_neg (fun z => by omega)]
        rw [List.getElem?_append_left (by omega)] at hx
        exact (h5 c hc).2 j x hx
    · rw [if_neg hcb] at hx
      have hlt := (List.getElem?_eq_some_iff.mp hx).1
      have := hr c hc
      rw [if_neg (fun z => by omega)]
      exact (h5 c hc).2 j x hx
  · rw [no 31 (by decide) (by decide) (by decide)]; exact h8 j x hx
theorem app_get {α : Type} {l : List α} {x : α} {j : Nat} {y : α} (h : (l ++ [x])[j]? = some y) : (j = l.length ∧ y = x) ∨ (j ≠ l.length ∧ l[j]? = some y) := by
  have hlt := (List.getElem?_eq_some_iff.mp h).1
  simp at hlt
  by_cases hj : j = l.length
  · left
    subst hj
    simp at h
    exact ⟨rfl, h.symm⟩
  · right
    rw [List.getElem?_append_left (by omega)] at h
    exact ⟨hj, h⟩
theorem RM_edge {S : St} {w : Wd} {m : Nat} {A : Nat → Nat} (h : RM S w m A) (e : Ed) : RM (tellS S e) (sI (sJ w (A 28) (eds S).length (pk e)) m 27 (nI ((eds S).length + 1))) m A := by
  obtain ⟨h1, ⟨a1, a2, a3⟩, ⟨b1, b2, b3, b4, b5, b6⟩, h4, h5, h6, h7, h8⟩ := h
  have ns : ∀ s, s ≠ 27 → wI (sI (sJ w (A 28) (eds S).length (pk e)) m 27 (nI ((eds S).length + 1))) m s = wI w m s := fun s hs => by
    rw [pI_I, if_neg (fun z => hs z.2), pI_J]
  have no : ∀ j, 0 < mKd j → ∀ s, wI (sI (sJ w (A 28) (eds S).length (pk e)) m 27 (nI ((eds S).length + 1))) (A j) s = wI w (A j) s := fun j hj s => by
    rw [pI_I, if_neg (fun z => isM_ne h1 hj z.1), pI_J]
  refine ⟨h1, ⟨?_, ?_, ?_⟩, ⟨?_, ?_, ?_, ?_, ?_, ?_⟩, fun j hj s hs => ?_, fun c hc => ⟨?_, fun j x hx => ?_⟩, fun j x hx => ?_, fun j x hx => ?_, fun j x hx => ?_⟩
  · rw [ns 1 (by decide)]; exact a1
  · rw [ns 2 (by decide)]; exact a2
  · rw [ns 30 (by decide)]; exact a3
  · rw [ns 3 (by decide)]; exact b1
  · rw [ns 12 (by decide)]; exact b2
  · rw [ns 21 (by decide)]; exact b3
  · rw [ns 25 (by decide)]; exact b4
  · rw [pI_I, if_pos ⟨rfl, rfl⟩]; unfold tellS; rw [eds_ue]; simp
  · rw [ns 29 (by decide)]; exact b6
  · rw [no j (isInt_kd hj).1]; exact h4 j hj s hs
  · rw [no 10 (by decide)]; exact (h5 c hc).1
  · rw [no 11 (by decide)]; exact (h5 c hc).2 j x hx
  · rw [pJ_I, pJ_J, if_neg (fun z => isM_nn h1 (j := 26) (k := 28) (by decide) (by decide) (by decide) z.1)]; exact h6 j x hx
  · unfold tellS at hx
    rw [eds_ue] at hx
    rw [pJ_I, pJ_J]
    rcases app_get hx with ⟨z1, z2⟩ | ⟨z1, z2⟩
    · rw [if_pos ⟨rfl, z1⟩, z2]
    · rw [if_neg (fun z => z1 z.2)]; exact h7 j x z2
  · rw [no 31 (by decide)]; exact h8 j x hx
theorem RM_wt {S : St} {w : Wd} {m : Nat} {A : Nat → Nat} (h : RM S w m A) (e : Ed) (n : Nat) : RM (uw S (wts S ++ [e]) n) (sI (sJ w (A 26) (wts S).length (pk e)) m 25 (nI ((wts S).length + 1))) m A := by
  obtain ⟨h1, ⟨a1, a2, a3⟩, ⟨b1, b2, b3, b4, b5, b6⟩, h4, h5, h6, h7, h8⟩ := h
  have ns : ∀ s, s ≠ 25 → wI (sI (sJ w (A 26) (wts S).length (pk e)) m 25 (nI ((wts S).length + 1))) m s = wI w m s := fun s hs => by
    rw [pI_I, if_neg (fun z => hs z.2), pI_J]
  have no : ∀ j, 0 < mKd j → ∀ s, wI (sI (sJ w (A 26) (wts S).length (pk e)) m 25 (nI ((wts S).length + 1))) (A j) s = wI w (A j) s := fun j hj s => by
    rw [pI_I, if_neg (fun z => isM_ne h1 hj z.1), pI_J]
  refine ⟨h1, ⟨?_, ?_, ?_⟩, ⟨?_, ?_, ?_, ?_, ?_, ?_⟩, fun j hj s hs => ?_, fun c hc => ⟨?_, fun j x hx => ?_⟩, fun j x hx => ?_, fun j x hx => ?_, fun j x hx => ?_⟩
  · rw [ns 1 (by decide)]; exact a1
  · rw [ns 2 (by decide)]; exact a2
  · rw [ns 30 (by decide)]; exact a3
  · rw [ns 3 (by decide)]; exact b1
  · rw [ns 12 (by decide)]; exact b2
  · rw [ns 21 (by decide)]; exact b3
  · rw [pI_I, if_pos ⟨rfl, rfl⟩, wts_uw]; simp
  · rw [ns 27 (by decide)]; exact b5
  · rw [ns 29 (by decide)]; exact b6
  · rw [no j (isInt_kd hj).1]; exact h4 j hj s hs
  · rw [no 10 (by decide)]; exact (h5 c hc).1
  · rw [no 11 (by decide)]; exact (h5 c hc).2 j x hx
  · rw [wts_uw] at hx
    rw [pJ_I, pJ_J]
    rcases app_get hx with ⟨z1, z2⟩ | ⟨z1, z2⟩
    · rw [if_pos ⟨rfl, z1⟩, z2]
    · rw [if_neg (fun z => z1 z.2)]; exact h6 j x z2
  · rw [pJ_I, pJ_J, if_neg (fun z => isM_nn h1 (j := 28) (k := 26) (by decide) (by decide) (by decide) z.1)]; exact h7 j x hx
  · rw [no 31 (by decide)]; exact h8 j x hx
theorem RM_go {S : St} {w : Wd} {m : Nat} {A : Nat → Nat} (h : RM S w m A) (i : Nat) : RM (ug S (gos S ++ [i])) (sI (sI w (A 31) (gos S).length (nI i)) m 29 (nI ((gos S).length + 1))) m A := by
  obtain ⟨h1, ⟨a1, a2, a3⟩, ⟨b1, b2, b3, b4, b5, b6⟩, h4, h5, h6, h7, h8⟩ := h
  have ns : ∀ s, s ≠ 29 → wI (sI (sI w (A 31) (gos S).length (nI i)) m 29 (nI ((gos S).length + 1))) m s = wI w m s := fun s hs => by
    rw [pI_I, if_neg (fun z => hs z.2), sc_a h1 (by decide)]
  have no : ∀ j, 0 < mKd j → j ≠ 31 → ∀ s, wI (sI (sI w (A 31) (gos S).length (nI i)) m 29 (nI ((gos S).length + 1))) (A j) s = wI w (A j) s := fun j hj hn s => by
    rw [pI_I, if_neg (fun z => isM_ne h1 hj z.1), pI_I, if_neg (fun z => isM_nn h1 hj (by decide) hn z.1)]
  refine ⟨isM_st (isM_st h1 _ _ _) _ _ _, ⟨?_, ?_, ?_⟩, ⟨?_, ?_, ?_, ?_, ?_, ?_⟩, fun j hj s hs => ?_, fun c hc => ⟨?_, fun j x hx => ?_⟩, h6, h7, fun j x hx => ?_⟩
  · rw [ns 1 (by decide)]; exact a1
  · rw [ns 2 (by decide)]; exact a2
  · rw [ns 30 (by decide)]; exact a3
  · rw [ns 3 (by decide)]; exact b1
  · rw [ns 12 (by decide)]; exact b2
  · rw [ns 21 (by decide)]; exact b3
  · rw [ns 25 (by decide)]; exact b4
  · rw [ns 27 (by decide)]; exact b5
  · rw [pI_I, if_pos ⟨rfl, rfl⟩, gos_ug]; simp
  · rw [no j (isInt_kd hj).1 (isInt_kd hj).2.2.2.1]; exact h4 j hj s hs
  · rw [no 10 (by decide) (by decide)]; exact (h5 c hc).1
  · rw [no 11 (by decide) (by decide)]; exact (h5 c hc).2 j x hx
  · rw [gos_ug] at hx
    rw [pI_I, if_neg (fun z => isM_ne h1 (k := 31) (by decide) z.1), pI_I]
    rcases app_get hx with ⟨z1, z2⟩ | ⟨z1, z2⟩
    · rw [if_pos ⟨rfl, z1⟩, z2]
    · rw [if_neg (fun z => z1 z.2)]; exact h8 j x z2
end
section
/-! WHAT A CALL OF THE REFERENCE LEAVES AS IT IS: all but its own numbers and rows; its slot 0 says what it threw -/
def FM (m : Nat) (A : Nat → Nat) (w w' : Wd) : Prop := (wL w' = wL w ∧ wK w' = wK w ∧ wR w' = wR w ∧ wN w' = wN w) ∧ wI w' m 0 = wI w m 0 ∧ ∀ b, b ≠ m → (∀ k, 0 < mKd k → b ≠ A k) → wI w' b = wI w b ∧ wJ w' b = wJ w b
theorem FM.rfl {m : Nat} {A : Nat → Nat} {w : Wd} : FM m A w w := ⟨⟨Eq.refl _, Eq.refl _, Eq.refl _, Eq.refl _⟩, Eq.refl _, fun _ _ _ => ⟨Eq.refl _, Eq.refl _⟩⟩
theorem FM.trans {m : Nat} {A : Nat → Nat} {w1 w2 w3 : Wd} (h1 : FM m A w1 w2) (h2 : FM m A w2 w3) : FM m A w1 w3 :=
  ⟨⟨h2.1.1.trans h1.1.1, h2.1.2.1.trans h1.1.2.1, h2.1.2.2.1.trans h1.1.2.2.1, h2.1.2.2.2.trans h1.1.2.2.2⟩, h2.2.1.trans h1.2.1, fun b hb hk => ⟨(h2.2.2 b hb hk).1.trans (h1.2.2 b hb hk).1, (h2.2.2 b hb hk).2.trans (h1.2.2 b hb hk).2⟩⟩
theorem FM.ar {m : Nat} {A : Nat → Nat} {w w' : Wd} (h : FM m A w w') {k : Nat} (hk : 0 < mKd k) (hn : A k ≠ m) (i : Nat) (v : Int32) : FM m A w (sI w' (A k) i v) := by
  refine ⟨h.1, ?_, fun b hb hj => ⟨?_, (h.2.2 b hb hj).2⟩⟩
  · rw [pI_I, if_neg (fun z => hn z.1.symm)]; exact h.2.1
  · rw [← (h.2.2 b hb hj).1]; funext j; rw [pI_I, if_neg (fun z => hj k hk z.1)]
theorem FM.arJ {m : Nat} {A : Nat → Nat} {w w' : Wd} (h : FM m A w w') {k : Nat} (hk : 0 < mKd k) (i : Nat) (v : Int64) : FM m A w (sJ w' (A k) i v) := by
  refine ⟨h.1, h.2.1, fun b hb hj => ⟨(h.2.2 b hb hj).1, ?_⟩⟩
  rw [← (h.2.2 b hb hj).2]; funext j; rw [pJ_J, if_neg (fun z => hj k hk z.1)]
theorem FM.sc {m : Nat} {A : Nat → Nat} {w w' : Wd} (h : FM m A w w') {s : Nat} (hs : s ≠ 0) (v : Int32) : FM m A w (sI w' m s v) := by
  refine ⟨h.1, ?_, fun b hb hj => ⟨?_, (h.2.2 b hb hj).2⟩⟩
  · rw [pI_I, if_neg (fun z => hs z.2.symm)]; exact h.2.1
  · rw [← (h.2.2 b hb hj).1]; funext j; rw [pI_I, if_neg (fun z => hb z.1)]
/-- one of the reference's rows, at a place in it -/
theorem ldA {w : Wd} {m : Nat} {A : Nat → Nat} (h : isM w m A) (k : Nat) {kd n j : Nat} {i : Int32} {P : Nat → Prop} (hk : mKd k = kd) (h0 : 0 < kd) (hn : mLn k = n) (hi : i = nI j) (hj : j < n) (hP : P (A k)) : ∃ a : Nat, wR w m k = some a ∧ (bw_is w a kd ∧ (vp_in i (wN w a) ∧ P a)) := by
  obtain ⟨h1, h2, h3⟩ := h.2.1 k (by rw [hk]; exact h0)
  have hn6 : n ≤ 6000 := by
    have : ∀ k, k < 32 → mLn k ≤ 6000 := by decide
    rw [← hn]
    exact this k (mKd_hi (by rw [hk]; exact h0)).2.2
  refine ⟨A k, h1, by rw [← hk]; exact h2, ?_, hP⟩
  rw [hi, h3, hn]
  exact vp_in_nI hj (by omega)
theorem vA {w : Wd} {m : Nat} {A : Nat → Nat} (h : isM w m A) (k : Nat) {n j : Nat} {i : Int32} (hk : 0 < mKd k) (hn : mLn k = n) (hi : i = nI j) (hj : j < n) : vp_in i (wN w (A k)) := by
  have hn6 : n ≤ 6000 := by
    have : ∀ k, k < 32 → mLn k ≤ 6000 := by decide
    rw [← hn]
    exact this k (mKd_hi hk).2.2
  rw [hi, (h.2.1 k hk).2.2, hn]
  exact vp_in_nI hj (by omega)
theorem nI_mul (a b : Nat) : nI a * nI b = nI (a * b) := (Int32.ofNat_mul a b).symm
theorem i60 (b j : Nat) : (60 : Int32) * nI b + nI j = nI (60 * b + j) := by
  rw [show (60 : Int32) = nI 60 from rfl, nI_mul, nI_add]
theorem i60' (b : Nat) : (60 : Int32) * nI b = nI (60 * b) := by
  rw [show (60 : Int32) = nI 60 from rfl, nI_mul]
theorem i2 (b j : Nat) : (2 : Int32) * nI b + nI j = nI (2 * b + j) := by
  rw [show (2 : Int32) = nI 2 from rfl, nI_mul, nI_add]
theorem i2' (b : Nat) : (2 : Int32) * nI b = nI (2 * b) := by
  rw [show (2 : Int32) = nI 2 from rfl, nI_mul]
section MO
variable {e0 mi m : Nat} {A : Nat → Nat} {S : St} {w : Wd}
theorem M_rear {i : Nat} {Q : Int32 → Wd → Prop} (h : RM S w m A) (hi : i < 61) (hQ : Q (rearS S i) w) : wp_Mo_rear e0 mi m (nI i) w Q := by
  unfold wp_Mo_rear
  have c : (nI i).toNatClampNeg = i := nI_clamp (by omega)
  rw [c]
  refine ⟨h.1.1, ldA h.1 15 (n := 61) rfl (by decide) rfl rfl hi (ldA h.1 16 (n := 61) rfl (by decide) rfl rfl hi ?_)⟩
  rw [h.2.2.2.1 15 (by unfold isInt; decide) i hi, h.2.2.2.1 16 (by unfold isInt; decide) i hi]
  exact hQ
/-- what must hold of the items of the rows -/
def okR (S : St) : Prop := ∀ b, b < 8 → (rr S b).length ≤ 60 ∧ ∀ i ∈ rr S b, 1 ≤ i ∧ i ≤ 60
theorem M_missing {b : Nat} {Q : Int32 → Wd → Prop} (h : RM S w m A) (hb : b < 8) (hr : okR S) (hQ : Q (missS S b) w) : wp_Mo_missing e0 mi m (nI b) w Q := by
  have c : (nI b).toNatClampNeg = b := nI_clamp (by omega)
  unfold wp_Mo_missing wb_Mo_missing_27
  obtain ⟨s1, s2⟩ := h.2.2.2.2.1 b hb
  refine ⟨h.1.1, ldA h.1 10 (n := 8) rfl (by decide) rfl rfl hb ?_⟩
  rw [c, s1]
  unfold missS at hQ
  refine ⟨fun hz => ?_, fun hz => ?_⟩
  · have hl : 0 < (rr S b).length := by
      rcases Nat.eq_zero_or_pos (rr S b).length with z | z
      · rw [z] at hz; exact absurd rfl hz
      · exact z
    have hlen := (hr b hb).1
    have hg : (rr S b)[(rr S b).length - 1]? = (rr S b).getLast? := List.getLast?_eq_getElem?.symm
    obtain ⟨i, hi⟩ : ∃ i, (rr S b).getLast? = some i := by
      cases hh : (rr S b).getLast? with
      | none => rw [List.getLast?_eq_none_iff] at hh; rw [hh] at hl; simp at hl
      | some i => exact ⟨i, rfl⟩
    rw [hi] at hQ hg
    have hmem : i ∈ rr S b := List.mem_of_getElem? hg
    have hi61 : i < 61 := by have := ((hr b hb).2 i hmem).2; omega
    have e1 : ((60 : Int32) * nI b + nI (rr S b).length) - 1 = nI (60 * b + ((rr S b).length - 1)) := by
      rw [i60, show 60 * b + (rr S b).length = (60 * b + ((rr S b).length - 1)) + 1 by omega, nI_pred]
    unfold wp_Mo_last
    refine ⟨h.1.1, ldA h.1 10 (n := 8) rfl (by decide) rfl rfl hb ?_⟩
    rw [c, s1]
    refine ldA h.1 11 (n := 480) rfl (by decide) rfl e1 (by omega) ?_
    rw [e1, nI_clamp (by omega), s2 _ i hg]
    refine ⟨h.1.1, M_rear h hi61 ?_⟩
    rw [h.2.1.2.1]
    exact hQ
  · have hl : (rr S b).length = 0 := by
      have hlen := (hr b hb).1
      exact (nI_eq (b := 0) (by omega) (by omega)).mp hz
    rw [List.length_eq_zero_iff.mp hl] at hQ
    exact hQ
theorem M_tell {kd i o : Nat} {Q : Wd → Prop} (h : RM S w m A) (he : (eds S).length < 6000) (hQ : ∀ w', RM (tellS S (mm S 1 0, kd, i, o)) w' m A → FM m A w w' → Q w') : wp_Mo_tell e0 mi m (nI kd) (nI i) (nI o) w Q := by
  unfold wp_Mo_tell
  have l := h.2.2.1.2.2.2.2.1
  refine ⟨h.1.1, ldA h.1 28 (n := 6000) rfl (by decide) rfl l he ?_⟩
  rw [l, nI_clamp (by omega), h.2.1.1, pI_J, l, nI_1]
  exact hQ _ (RM_edge h (mm S 1 0, kd, i, o)) ((FM.rfl.arJ (by decide) _ _).sc (by decide) _)
theorem M_come {b i : Nat} {Q : Wd → Prop} (h : RM S w m A) (hb : b < 8) (hi : i < 61) (hl : (rr S b).length < 60) (hr : okR S) (hQ : ∀ w', RM (comeS S i b) w' m A → FM m A w w' → Q w') : wp_Mo_come e0 mi m (nI i) (nI b) w Q := by
  have c : (nI b).toNatClampNeg = b := nI_clamp (by omega)
  have ci : (nI i).toNatClampNeg = i := nI_clamp (by omega)
  have nb0 : vp_nar .boolean (0 : Int32) = 0 := by rfl
  unfold wp_Mo_come
  rw [ci, c, nb0]
  refine ⟨h.1.1, ldA h.1 14 (n := 61) rfl (by decide) rfl rfl hi ?_⟩
  have h1 := RM_um h (k := 14) (i := i) (by unfold isInt; decide) (nI b)
  have f1 := (FM.rfl (m := m) (A := A) (w := w)).ar (k := 14) (by decide) (isM_ne h.1 (by decide)) i (nI b)
  generalize sI w (A 14) i (nI b) = u1 at h1 f1 ⊢
  refine ldA h1.1 15 (n := 61) rfl (by decide) rfl rfl hi ?_
  have h2 := RM_um h1 (k := 15) (i := i) (by unfold isInt; decide) 0
  have f2 := f1.ar (k := 15) (by decide) (isM_ne h.1 (by decide)) i 0
  generalize sI u1 (A 15) i 0 = u2 at h2 f2 ⊢
  refine ldA h2.1 17 (n := 61) rfl (by decide) rfl rfl hi ?_
  have h3 := RM_um h2 (k := 17) (i := i) (by unfold isInt; decide) 0
  have f3 := f2.ar (k := 17) (by decide) (isM_ne h.1 (by decide)) i 0
  generalize sI u2 (A 17) i 0 = u3 at h3 f3 ⊢
  refine ldA h3.1 18 (n := 61) rfl (by decide) rfl rfl hi ?_
  have h4 := RM_um h3 (k := 18) (i := i) (by unfold isInt; decide) 0
  have f4 := f3.ar (k := 18) (by decide) (isM_ne h.1 (by decide)) i 0
  generalize sI u3 (A 18) i 0 = u4 at h4 f4 ⊢
  refine ldA h4.1 19 (n := 61) rfl (by decide) rfl rfl hi ?_
  have h5 := RM_um h4 (k := 19) (i := i) (by unfold isInt; decide) 0
  have f5 := f4.ar (k := 19) (by decide) (isM_ne h.1 (by decide)) i 0
  generalize sI u4 (A 19) i 0 = u5 at h5 f5 ⊢
  have hrr : rr (um (um (um (um (um S 14 i (nI b)) 15 i 0) 17 i 0) 18 i 0) 19 i 0) = rr S := by rw [rr_um, rr_um, rr_um, rr_um, rr_um]
  have s1 : wI u5 (A 10) b = nI (rr S b).length := by rw [← hrr]; exact (h5.2.2.2.2.1 b hb).1
  refine ldA h5.1 10 (n := 8) rfl (by decide) rfl rfl hb ?_
  rw [s1]
  refine ldA h5.1 11 (n := 480) rfl (by decide) rfl (i60 b _) (by omega) ?_
  rw [i60, nI_clamp (by omega)]
  have h6 := RM_push h5 hb (i := i) (by rw [hrr]; exact hl) (fun c hc => by rw [hrr]; exact (hr c hc).1)
  rw [hrr] at h6
  have e6 : wI (sI u5 (A 11) (60 * b + (rr S b).length) (nI i)) (A 10) b = nI (rr S b).length := by
    rw [pI_I, if_neg (fun z => isM_nn h.1 (j := 10) (k := 11) (by decide) (by decide) (by decide) z.1), s1]
  refine ldA (isM_st h5.1 _ _ _) 10 (n := 8) rfl (by decide) rfl rfl hb ⟨vA (isM_st h5.1 _ _ _) 10 (n := 8) (by decide) rfl rfl hb, ?_⟩
  rw [e6, nI_1]
  exact hQ _ h6 ((f5.ar (by decide) (isM_ne h.1 (by decide)) _ _).ar (by decide) (isM_ne h.1 (by decide)) _ _)
/-- where an item stands in its row -/
theorem M_indexOf_l {b p i : Nat} {Q : Int32 → Wd → Prop} (h : RM S w m A) (hb : b < 8) (hi : i < 61) (hbe : mm S 14 i = nI b) (hp : (rr S b)[p]? = some i) (hn : ∀ j, j < p → (rr S b)[j]? ≠ some i) (hr : okR S) (hQ : Q (nI p) w) : ∀ (n j : Nat), j + n = p → wb_Mo_indexOf_2 e0 mi Q (n + 1) m (nI i) (nI j) w := by
  have ci : (nI i).toNatClampNeg = i := nI_clamp (by omega)
  have hlp := (List.getElem?_eq_some_iff.mp hp).1
  have hlen := (hr b hb).1
  have hv := h.2.2.2.1 14 (by unfold isInt; decide) i hi
  rw [hbe] at hv
  intro n
  induction n with
  | zero =>
    intro j hj
    have hjp : j = p := by omega
    subst hjp
    unfold wb_Mo_indexOf_2
    refine ⟨h.1.1, ldA h.1 14 (n := 61) rfl (by decide) rfl rfl hi ?_⟩
    rw [ci, hv]
    refine ldA h.1 11 (n := 480) rfl (by decide) rfl (i60 b j) (by omega) ?_
    rw [i60, nI_clamp (by omega), (h.2.2.2.2.1 b hb).2 j i hp]
    exact ⟨fun _ => hQ, fun z => absurd rfl z⟩
  | succ n ih =>
    intro j hj
    unfold wb_Mo_indexOf_2
    refine ⟨h.1.1, ldA h.1 14 (n := 61) rfl (by decide) rfl rfl hi ?_⟩
    rw [ci, hv]
    refine ldA h.1 11 (n := 480) rfl (by decide) rfl (i60 b j) (by omega) ?_
    obtain ⟨x, hx⟩ : ∃ x, (rr S b)[j]? = some x := ⟨(rr S b)[j]'(by omega), List.getElem?_eq_getElem (by omega)⟩
    have hxm := ((hr b hb).2 x (List.mem_of_getElem? hx)).2
    rw [i60, nI_clamp (by omega), (h.2.2.2.2.1 b hb).2 j x hx]
    refine ⟨fun z => ?_, fun _ i9 e9 => ?_⟩
    · have hxi : x = i := (nI_eq (by omega) (by omega)).mp z
      exact absurd (hxi ▸ hx) (hn j (by omega))
    · rw [e9, nI_1]
      exact ih (j + 1) (by omega)
theorem M_indexOf {b p i : Nat} {Q : Int32 → Wd → Prop} (h : RM S w m A) (hb : b < 8) (hi : i < 61) (hbe : mm S 14 i = nI b) (hp : (rr S b)[p]? = some i) (hn : ∀ j, j < p → (rr S b)[j]? ≠ some i) (hr : okR S) (hQ : Q (nI p) w) : wp_Mo_indexOf e0 mi m (nI i) w Q := by
  unfold wp_Mo_indexOf
  exact ⟨p + 1, M_indexOf_l h hb hi hbe hp hn hr hQ p 0 (by omega)⟩
theorem M_atEnd {b : Nat} {Q : Int32 → Wd → Prop} (h : RM S w m A) (hb : b < 8) (hr : okR S) (hQ : Q (nI ((atEndS S b).getD 0)) w) : wp_Mo_atEnd e0 mi m (nI b) w Q := by
  have c : (nI b).toNatClampNeg = b := nI_clamp (by omega)
  obtain ⟨s1, s2⟩ := h.2.2.2.2.1 b hb
  unfold wp_Mo_atEnd wb_Mo_atEnd_41
  unfold atEndS at hQ
  refine ⟨h.1.1, ldA h.1 10 (n := 8) rfl (by decide) rfl rfl hb ?_⟩
  rw [c, s1]
  cases hl : rr S b with
  | nil =>
    rw [hl] at hQ
    exact ⟨fun z => absurd rfl z, fun _ => hQ⟩
  | cons i t =>
    rw [hl] at hQ
    have hi1 := (hr b hb).2 i (by rw [hl]; exact List.mem_cons_self)
    have hlen := (hr b hb).1
    rw [hl] at hlen
    have h0 : (rr S b)[0]? = some i := by rw [hl]; rfl
    have hs := s2 0 i h0
    refine ⟨fun _ => ?_, fun z => absurd z (nI_ne0 (by simp) (by omega))⟩
    refine ldA h.1 11 (n := 480) rfl (by decide) rfl (i60' b) (by omega) (fun i9 e9 => ?_)
    rw [i60', nI_clamp (by omega), show 60 * b = 60 * b + 0 from rfl, hs] at e9
    subst e9
    refine ldA h.1 15 (n := 61) rfl (by decide) rfl rfl (by omega) (ldA h.1 4 (n := 8) rfl (by decide) rfl rfl hb ?_)
    rw [nI_clamp (by omega), h.2.2.2.1 15 (by unfold isInt; decide) i (show i < 61 by omega), h.2.2.2.1 4 (by unfold isInt; decide) b hb]
    refine ⟨fun z => ?_, fun z => ?_⟩
    · simp only [if_neg z] at hQ
      exact hQ
    · simp only [if_pos z] at hQ
      exact hQ
/-- the way of an item of the belt b, as the reference tells it: 0, 1, or -1 -/
def gbS (S : St) (b i : Nat) : Int32 := if mm S 7 (2 * b + (mm S 17 i).toNatClampNeg) = -1 then (if mm S 7 (2 * b) = -1 then -1 else 0) else mm S 17 i
theorem M_goesBy {b i : Nat} {Q : Int32 → Wd → Prop} (h : RM S w m A) (hb : b < 8) (hi : i < 61) (hbe : mm S 14 i = nI b) (hw : mm S 17 i = 0 ∨ mm S 17 i = 1) (hQ : Q (gbS S b i) w) : wp_Mo_goesBy e0 mi m (nI i) w Q := by
  have ci : (nI i).toNatClampNeg = i := nI_clamp (by omega)
  have hv := h.2.2.2.1 14 (by unfold isInt; decide) i hi
  rw [hbe] at hv
  have hv2 := h.2.2.2.1 17 (by unfold isInt; decide) i hi
  obtain ⟨y, hy, hy2⟩ : ∃ y, mm S 17 i = nI y ∧ y < 2 := by
    rcases hw with z | z
    · exact ⟨0, z, by decide⟩
    · exact ⟨1, z, by decide⟩
  have cy : (nI y).toNatClampNeg = y := nI_clamp (by omega)
  unfold gbS at hQ
  rw [hy, cy] at hQ
  unfold wp_Mo_goesBy wb_Mo_goesBy_53
  refine ⟨h.1.1, ldA h.1 14 (n := 61) rfl (by decide) rfl rfl hi (ldA h.1 17 (n := 61) rfl (by decide) rfl rfl hi ?_)⟩
  rw [ci, hv, hv2, hy]
  refine ldA h.1 7 (n := 16) rfl (by decide) rfl (i2 b y) (by omega) ?_
  rw [i2, i2', nI_clamp (by omega), nI_clamp (by omega), h.2.2.2.1 7 (by unfold isInt; decide) _ (show 2 * b + y < 16 by omega), h.2.2.2.1 7 (by unfold isInt; decide) _ (show 2 * b < 16 by omega)]
  refine ⟨fun z => ⟨vA h.1 14 (n := 61) (by decide) rfl rfl hi, vA h.1 7 (n := 16) (by decide) rfl rfl (by omega), fun z2 => ?_, fun z2 => ?_⟩, fun z => ⟨vA h.1 17 (n := 61) (by decide) rfl rfl hi, ?_⟩⟩
  · rw [if_pos z, if_pos z2] at hQ; exact hQ
  · rw [if_pos z, if_neg z2] at hQ; exact hQ
  · rw [if_neg z] at hQ; exact hQ
end MO
end
section
/-! THE REFERENCE: an item leaves its row -/
/-- while the items behind it come up: the places at .. k - 1 are done -/
def lvS (S : St) (b p k : Nat) (m : Nat) (A : Nat → Nat) (w u : Wd) : Prop :=
  isM u m A ∧ FM m A w u ∧ (∀ a, a ≠ A 10 → a ≠ A 11 → wI u a = wI w a) ∧ wJ u = wJ w ∧ wI u (A 10) b = nI ((rr S b).length - 1) ∧ (∀ c, c ≠ b → wI u (A 10) c = wI w (A 10) c) ∧
  (∀ j, p ≤ j → j < k → wI u (A 11) (60 * b + j) = wI w (A 11) (60 * b + j + 1)) ∧ (∀ x, (x < 60 * b + p ∨ 60 * b + k ≤ x) → wI u (A 11) x = wI w (A 11) x)
theorem lvS_end {S : St} {b p m : Nat} {A : Nat → Nat} {w u : Wd} (h : RM S w m A) (hb : b < 8) (hr : okR S) (hp : p < (rr S b).length) (hu : lvS S b p ((rr S b).length - 1) m A w u) : RM (ur S b ((rr S b).eraseIdx p)) u m A := by
  obtain ⟨h1, ⟨a1, a2, a3⟩, ⟨b1, b2, b3, b4, b5, b6⟩, h4, h5, h6, h7, h8⟩ := h
  obtain ⟨u1, u2, u3, u4, u5, u6, u7, u8⟩ := hu
  have m10 : m ≠ A 10 := fun z => isM_ne h1 (k := 10) (by decide) z.symm
  have m11 : m ≠ A 11 := fun z => isM_ne h1 (k := 11) (by decide) z.symm
  have ns : ∀ s, wI u m s = wI w m s := fun s => by rw [u3 m m10 m11]
  have no : ∀ j, 0 < mKd j → j ≠ 10 → j ≠ 11 → ∀ s, wI u (A j) s = wI w (A j) s := fun j hj n1 n2 s => by rw [u3 _ (isM_nn h1 hj (by decide) n1) (isM_nn h1 hj (by decide) n2)]
  have hlen := (hr b hb).1
  refine ⟨u1, ⟨?_, ?_, ?_⟩, ⟨?_, ?_, ?_, ?_, ?_, ?_⟩, fun j hj s hs => ?_, fun c hc => ⟨?_, fun j x hx => ?_⟩, fun j x hx => ?_, fun j x hx => ?_, fun j x hx => ?_⟩
  · rw [ns]; exact a1
  · rw [ns]; exact a2
  · rw [ns]; exact a3
  · rw [ns]; exact b1
  · rw [ns]; exact b2
  · rw [ns]; exact b3
  · rw [ns]; exact b4
  · rw [ns]; exact b5
  · rw [ns]; exact b6
  · obtain ⟨k1, k2, k3, -⟩ := isInt_kd hj
    rw [no j k1 k2 k3]; exact h4 j hj s hs
  · rw [rr_ur]
    by_cases hcb : c = b
    · rw [if_pos hcb, hcb, u5, List.length_eraseIdx, if_pos hp]
    · rw [if_neg hcb, u6 c hcb]; exact (h5 c hc).1
  · rw [rr_ur] at hx
    by_cases hcb : c = b
    · rw [if_pos hcb] at hx
      subst hcb
      rw [List.getElem?_eraseIdx] at hx
      by_cases hjp : j < p
      · rw [if_pos hjp] at hx
        rw [u8 _ (Or.inl (by omega))]
        exact (h5 c hc).2 j x hx
      · rw [if_neg hjp] at hx
        have hlt := (List.getElem?_eq_some_iff.mp hx).1
        rw [u7 j (by omega) (by omega), Nat.add_assoc]
        exact (h5 c hc).2 (j + 1) x hx
    · rw [if_neg hcb] at hx
      have hlt := (List.getElem?_eq_some_iff.mp hx).1
      have := (hr c hc).1
      rw [u8 _ (by omega)]
      exact (h5 c hc).2 j x hx
  · rw [u4]; exact h6 j x hx
  · rw [u4]; exact h7 j x hx
  · rw [no 31 (by decide) (by decide) (by decide)]; exact h8 j x hx
section MO
variable {e0 mi m : Nat} {A : Nat → Nat} {S : St} {w : Wd}
theorem M_leave_l {b p i : Nat} {z : Int32} {Q : Wd → Prop} (h : RM S w m A) (hb : b < 8) (hr : okR S) (hp : p < (rr S b).length) (hQ : ∀ u, lvS S b p ((rr S b).length - 1) m A w u → Q u) : ∀ (n k : Nat) (u : Wd), k + n = (rr S b).length - 1 → p ≤ k → lvS S b p k m A w u → wb_Mo_leave_26 e0 mi Q (n + 1) m (nI i) (nI b) z (nI k) u := by
  have c : (nI b).toNatClampNeg = b := nI_clamp (by omega)
  have hlen := (hr b hb).1
  intro n
  induction n with
  | zero =>
    intro k u hk hpk hu
    have hkk : k = (rr S b).length - 1 := by omega
    unfold wb_Mo_leave_26
    refine ⟨hu.1.1, ldA hu.1 10 (n := 8) rfl (by decide) rfl rfl hb ?_⟩
    rw [c, hu.2.2.2.2.1]
    refine ⟨fun _ => hQ u (hkk ▸ hu), fun y => absurd (nI_le (by omega) (by omega)) y⟩
  | succ n ih =>
    intro k u hk hpk hu
    unfold wb_Mo_leave_26
    refine ⟨hu.1.1, ldA hu.1 10 (n := 8) rfl (by decide) rfl rfl hb ?_⟩
    rw [c, hu.2.2.2.2.1]
    refine ⟨fun y => absurd y (nI_ge (by omega) (by omega)), fun _ => ?_⟩
    have e1 : ((60 : Int32) * nI b + nI k) + 1 = nI (60 * b + k + 1) := by rw [i60, nI_1]
    refine ldA hu.1 11 (n := 480) rfl (by decide) rfl e1 (by omega) ⟨vA hu.1 11 (n := 480) (by decide) rfl (i60 b k) (by omega), fun i10 e10 => ?_⟩
    rw [e1, i60, nI_clamp (by omega), nI_clamp (by omega), e10, nI_1]
    refine ih (k + 1) _ (by omega) (by omega) ?_
    obtain ⟨u1, u2, u3, u4, u5, u6, u7, u8⟩ := hu
    have n1 : A 10 ≠ A 11 := isM_nn h.1 (by decide) (by decide) (by decide)
    refine ⟨isM_st u1 _ _ _, u2.ar (by decide) (isM_ne h.1 (by decide)) _ _, fun a ha1 ha2 => ?_, u4, ?_, fun c hc => ?_, fun j hj1 hj2 => ?_, fun x hx => ?_⟩
    · rw [← u3 a ha1 ha2]; funext s; rw [pI_I, if_neg (fun y => ha2 y.1)]
    · rw [pI_I, if_neg (fun y => n1 y.1)]; exact u5
    · rw [pI_I, if_neg (fun y => n1 y.1)]; exact u6 c hc
    · rw [pI_I]
      by_cases hjk : j = k
      · subst hjk
        rw [if_pos ⟨rfl, rfl⟩]
        exact u8 _ (Or.inr (by omega))
      · rw [if_neg (fun y => by omega)]
        exact u7 j hj1 (by omega)
    · rw [pI_I, if_neg (fun y => by omega)]
      exact u8 x (by omega)
theorem M_leave {b p i : Nat} {Q : Wd → Prop} (h : RM S w m A) (hb : b < 8) (hi : i < 61) (hbe : mm S 14 i = nI b) (hp : (rr S b)[p]? = some i) (hn : ∀ j, j < p → (rr S b)[j]? ≠ some i) (hr : okR S) (hQ : ∀ w', RM (ur S b ((rr S b).eraseIdx p)) w' m A → FM m A w w' → Q w') : wp_Mo_leave e0 mi m (nI i) w Q := by
  have ci : (nI i).toNatClampNeg = i := nI_clamp (by omega)
  have c : (nI b).toNatClampNeg = b := nI_clamp (by omega)
  have hlt := (List.getElem?_eq_some_iff.mp hp).1
  have hlen := (hr b hb).1
  have hv := h.2.2.2.1 14 (by unfold isInt; decide) i hi
  rw [hbe] at hv
  unfold wp_Mo_leave
  refine ⟨h.1.1, ldA h.1 14 (n := 61) rfl (by decide) rfl rfl hi (fun i5 e5 => ?_)⟩
  rw [ci, hv] at e5
  subst e5
  refine M_indexOf h hb hi hbe hp hn hr ⟨h.1.1, ldA h.1 10 (n := 8) rfl (by decide) rfl rfl hb ⟨vA h.1 10 (n := 8) (by decide) rfl rfl hb, (rr S b).length - 1 - p + 1, ?_⟩⟩
  rw [c, (h.2.2.2.2.1 b hb).1]
  have e1 : nI (rr S b).length - 1 = nI ((rr S b).length - 1) := by
    rw [show (rr S b).length = ((rr S b).length - 1) + 1 by omega, nI_pred]; simp
  rw [e1]
  have n1 : A 11 ≠ A 10 := isM_nn h.1 (by decide) (by decide) (by decide)
  refine M_leave_l h hb hr hlt (fun u hu => hQ u (lvS_end h hb hr hlt hu) hu.2.1) _ p _ (by omega) (Nat.le_refl _) ⟨isM_st h.1 _ _ _, FM.rfl.ar (by decide) (isM_ne h.1 (by decide)) _ _, fun a ha1 ha2 => ?_, rfl, ?_, fun c hc => ?_, fun j h1 h2 => (by omega), fun x _ => ?_⟩
  · funext s; rw [pI_I, if_neg (fun y => ha1 y.1)]
  · rw [pI_I, if_pos ⟨rfl, rfl⟩]
  · rw [pI_I, if_neg (fun y => hc y.2)]
  · rw [pI_I, if_neg (fun y => n1 y.1)]
end MO
end
section
/-! WHAT HOLDS OF EVERY STATE THAT CALLS LEAD TO -/
def okS (S : St) : Prop :=
  (nB S ≤ 8 ∧ nT S ≤ 60 ∧ nS S ≤ 4) ∧
  (∀ b, nB S ≤ b → rr S b = []) ∧
  (∀ b i, i ∈ rr S b → 1 ≤ i ∧ i ≤ nT S ∧ mm S 13 i = 0 ∧ mm S 14 i = nI b ∧ (mm S 17 i = 0 ∨ mm S 17 i = 1)) ∧
  (∀ b, (rr S b).Nodup) ∧
  (∀ i, 1 ≤ i → i ≤ nT S → ∃ b, b < nB S ∧ mm S 14 i = nI b ∧ (mm S 13 i = 0 → i ∈ rr S b)) ∧
  (∀ b, b < nB S → ∀ y, y < 2 → mm S 7 (2 * b + y) = -1 ∨ ∃ c, b < c ∧ c < nB S ∧ mm S 7 (2 * b + y) = nI c) ∧
  ((gos S).Nodup ∧ ∀ i ∈ gos S, 1 ≤ i ∧ i ≤ nT S ∧ mm S 13 i = 1) ∧
  (∀ s, s < nS S → ∃ b, b < nB S ∧ mm S 22 s = nI b) ∧
  (∀ e ∈ wts S, e.2.1 = 0 ∧ e.2.2.1 ≤ 60 ∧ e.2.2.2 < 8) ∧ (∀ e ∈ eds S, e.2.1 < 3 ∧ e.2.2.1 ≤ 60 ∧ e.2.2.2 < 8)
/-- numbers 1 .. n, none twice: no more than n -/
theorem nodup_le : ∀ (n : Nat) (l : List Nat), l.Nodup → (∀ i ∈ l, 1 ≤ i ∧ i ≤ n) → l.length ≤ n
  | 0, l, _, h => by
    cases l with
    | nil => simp
    | cons x t => have := h x List.mem_cons_self; omega
  | n + 1, l, hn, h => by
    have h1 : (l.erase (n + 1)).length ≤ n := nodup_le n (l.erase (n + 1)) (hn.erase _) (fun i hi => by
      have hi2 := (List.Nodup.mem_erase_iff hn).mp hi
      have := h i hi2.2
      have := hi2.1
      omega)
    have h2 := List.length_erase (a := n + 1) (l := l)
    by_cases hm : n + 1 ∈ l
    · rw [if_pos hm] at h2; omega
    · rw [if_neg hm] at h2; omega
theorem okS_R {S : St} (h : okS S) : okR S := fun b _ => ⟨Nat.le_trans (nodup_le (nT S) _ (h.2.2.2.1 b) (fun i hi => ⟨(h.2.2.1 b i hi).1, (h.2.2.1 b i hi).2.1⟩)) h.1.2.1, fun i hi => ⟨(h.2.2.1 b i hi).1, Nat.le_trans (h.2.2.1 b i hi).2.1 h.1.2.1⟩⟩
theorem nodup_first {l : List Nat} (h : l.Nodup) {p i : Nat} (hp : l[p]? = some i) : ∀ j, j < p → l[j]? ≠ some i := fun j hj hz => by
  have h1 := (List.getElem?_eq_some_iff.mp hp)
  have h2 := (List.getElem?_eq_some_iff.mp hz)
  obtain ⟨a1, a2⟩ := h1
  obtain ⟨b1, b2⟩ := h2
  exact (List.pairwise_iff_getElem.mp h j p b1 a1 hj) (b2.trans a2.symm)
theorem atEnd_some {S : St} {b i : Nat} (h : atEndS S b = some i) : ∃ t, rr S b = i :: t ∧ mm S 15 i = mm S 4 b := by
  unfold atEndS at h
  cases hl : rr S b with
  | nil => rw [hl] at h; simp at h
  | cons j t =>
    rw [hl] at h
    by_cases hz : mm S 15 j = mm S 4 b
    · simp only [if_pos hz] at h
      cases h
      exact ⟨t, rfl, hz⟩
    · simp only [if_neg hz] at h
      cases h
/-- the two ways of saying by which way an item goes -/
theorem goes_gb {S : St} {b i : Nat} (hw : mm S 17 i = 0 ∨ mm S 17 i = 1) : (gbS S b i = -1 ∧ goesS S b i = none) ∨ ∃ y, y < 2 ∧ gbS S b i = nI y ∧ goesS S b i = some (2 * b + y) ∧ ¬ mm S 7 (2 * b + y) = -1 := by
  obtain ⟨y, hy, hy2⟩ : ∃ y, mm S 17 i = nI y ∧ y < 2 := by
    rcases hw with z | z
    · exact ⟨0, z, by decide⟩
    · exact ⟨1, z, by decide⟩
  have cy : (nI y).toNatClampNeg = y := nI_clamp (by omega)
  unfold gbS goesS
  rw [hy, cy]
  by_cases h1 : mm S 7 (2 * b + y) = -1
  · rw [if_pos h1, if_pos h1]
    by_cases h2 : mm S 7 (2 * b) = -1
    · rw [if_pos h2, if_pos h2]; exact Or.inl ⟨rfl, rfl⟩
    · rw [if_neg h2, if_neg h2]; exact Or.inr ⟨0, by decide, rfl, rfl, h2⟩
  · rw [if_neg h1, if_neg h1]; exact Or.inr ⟨y, hy2, rfl, rfl, h1⟩
theorem cand_some {S : St} (hS : okS S) {b x k : Nat} (h : candS S b x = some k) : ∃ j t, rr S x = j :: t ∧ mm S 15 j = mm S 4 x ∧ goesS S x j = some k ∧ (∃ y, y < 2 ∧ k = 2 * x + y) ∧ mm S 7 k = nI b ∧ ¬ mm S 6 x = 0 := by
  unfold candS at h
  by_cases h6 : mm S 6 x = 0
  · rw [if_pos h6] at h; cases h
  · rw [if_neg h6] at h
    cases ha : atEndS S x with
    | none => rw [ha] at h; cases h
    | some j =>
      rw [ha] at h
      obtain ⟨t, ht, hpl⟩ := atEnd_some ha
      have hw := (hS.2.2.1 x j (by rw [ht]; exact List.mem_cons_self)).2.2.2.2
      rcases goes_gb (b := x) hw with ⟨-, g2⟩ | ⟨y, y1, -, g2, -⟩
      · simp [g2] at h
      · simp only [g2] at h
        by_cases h7 : mm S 7 (2 * x + y) = nI b
        · simp only [if_pos h7] at h
          cases h
          exact ⟨j, t, ht, hpl, g2, ⟨y, y1, rfl⟩, h7, h6⟩
        · simp only [if_neg h7] at h
          cases h
theorem giver_some {S : St} {b : Nat} : ∀ (n k : Nat), giverS S b n = some k → ∃ x, x < n ∧ candS S b x = some k
  | 0, k, h => by unfold giverS at h; cases h
  | n + 1, k, h => by
    unfold giverS bestS at h
    cases hc : candS S b n with
    | none =>
      rw [hc] at h
      obtain ⟨x, hx, hk⟩ := giver_some n k h
      exact ⟨x, by omega, hk⟩
    | some k2 =>
      rw [hc] at h
      cases hg : giverS S b n with
      | none =>
        rw [hg] at h
        cases h
        exact ⟨n, by omega, hc⟩
      | some j =>
        rw [hg] at h
        by_cases hz : mm S 9 k2 * mm S 8 j < mm S 9 j * mm S 8 k2
        · simp only [if_pos hz] at h
          cases h
          exact ⟨n, by omega, hc⟩
        · simp only [if_neg hz] at h
          cases h
          obtain ⟨x, hx, hk⟩ := giver_some n _ hg
          exact ⟨x, by omega, hk⟩
theorem giver_step {S : St} {b x : Nat} {c : Option Nat} (hc : candS S b x = c) : giverS S b (x + 1) = bestS S c (giverS S b x) := by
  show bestS S (candS S b x) (giverS S b x) = _
  rw [hc]
def enc : Option Nat → Int32
  | none => -1
  | some k => nI k
theorem nI_nm {n : Nat} (h : n < 2 ^ 31) : ¬ nI n = -1 := fun z => by
  have h1 := congrArg Int32.toInt z
  rw [nI_toInt h] at h1
  have e1 : (-1 : Int32).toInt = -1 := by decide
  omega
section MO
variable {e0 mi m : Nat} {A : Nat → Nat} {S : St} {w : Wd}
/-- the giver to b -/
theorem M_giver {b : Nat} {x2 : Int32} {Q : Wd → Prop} (h : RM S w m A) (hS : okS S) (hb : b < nB S) (hQ : ∀ n, wb_Mo_exchange_92 e0 mi Q (n + 1) m (nI b) x2 (enc (giverS S b b)) (nI b) w) : ∀ (n x : Nat), x + n = b → wb_Mo_exchange_92 e0 mi Q (n + 1) m (nI b) x2 (enc (giverS S b x)) (nI x) w := by
  have hr := okS_R hS
  have hb8 : b < 8 := by have := hS.1.1; omega
  intro n
  induction n with
  | zero =>
    intro x hx
    have : x = b := by omega
    subst this
    exact hQ 0
  | succ n ih =>
    intro x hx
    have hx8 : x < 8 := by omega
    have hnext : ∀ (z : Int32) (best : Option Nat), giverS S b (x + 1) = best → wb_Mo_exchange_201 e0 mi (wb_Mo_exchange_92 e0 mi Q (n + 1)) Q m (nI b) x2 (enc best) (nI x) z w := fun z best hbest => by
      unfold wb_Mo_exchange_201
      intro i1 e1
      rw [e1, nI_1, ← hbest]
      exact ih (x + 1) (by omega)
    unfold wb_Mo_exchange_92
    refine ⟨fun z => absurd z (nI_ge (by omega) (by omega)), fun _ => ⟨h.1.1, ldA h.1 6 (n := 8) rfl (by decide) rfl rfl hx8 ?_⟩⟩
    rw [nI_clamp (by omega), h.2.2.2.1 6 (by unfold isInt; decide) x hx8]
    refine ⟨fun z => ?_, fun z => M_atEnd h hx8 hr ?_⟩
    · unfold wb_Mo_exchange_118
      have hc : candS S b x = none := by unfold candS; rw [if_pos z]
      exact ⟨fun _ => hnext _ _ (giver_step hc), fun y => absurd rfl y⟩
    · unfold wb_Mo_exchange_118
      cases ha : atEndS S x with
      | none =>
        have hc : candS S b x = none := by unfold candS; rw [if_neg z]; simp only [ha]
        exact ⟨fun _ => hnext _ _ (giver_step hc), fun y => absurd rfl y⟩
      | some j =>
        obtain ⟨t, ht, hpl⟩ := atEnd_some ha
        have hj := hS.2.2.1 x j (by rw [ht]; exact List.mem_cons_self)
        have hj61 : j < 61 := by have := hj.2.1; have := hS.1.2.1; omega
        rw [show ((some j).getD 0) = j from rfl]
        refine ⟨fun y => absurd y (nI_ne0 hj.1 (by omega)), fun _ => ⟨h.1.1, M_goesBy h hx8 hj61 hj.2.2.2.1 hj.2.2.2.2 ?_⟩⟩
        rcases goes_gb (b := x) hj.2.2.2.2 with ⟨g1, g2⟩ | ⟨y, y1, g1, g2, -⟩
        · rw [g1]
          have hc : candS S b x = none := by unfold candS; rw [if_neg z]; simp only [ha, g2]
          exact ⟨fun q => absurd rfl q, fun _ => hnext _ _ (giver_step hc)⟩
        · rw [g1]
          refine ⟨fun _ => ⟨h.1.1, M_goesBy h hx8 hj61 hj.2.2.2.1 hj.2.2.2.2 ?_⟩, fun q => absurd q (nI_nm (by omega))⟩
          rw [g1]
          intro i19 e19
          rw [i2] at e19
          subst e19
          refine ⟨h.1.1, ldA h.1 7 (n := 16) rfl (by decide) rfl rfl (by omega) ?_⟩
          rw [nI_clamp (by omega), h.2.2.2.1 7 (by unfold isInt; decide) _ (show 2 * x + y < 16 by omega)]
          refine ⟨fun q => ?_, fun q => ?_⟩
          · have hc : candS S b x = none := by unfold candS; rw [if_neg z]; simp only [ha, g2, if_neg q]
            exact hnext _ _ (giver_step hc)
          · have hc : candS S b x = some (2 * x + y) := by unfold candS; rw [if_neg z]; simp only [ha, g2, if_pos q]
            refine ⟨fun q2 => ?_, fun q2 => ?_⟩
            · unfold wb_Mo_exchange_198
              have hbn : giverS S b x = none := by
                cases hg : giverS S b x with
                | none => rfl
                | some k =>
                  rw [hg] at q2
                  obtain ⟨x', hx', hk⟩ := giver_some x k hg
                  obtain ⟨j', t', -, -, -, ⟨y', hy', hky⟩, -, -⟩ := cand_some hS hk
                  exact absurd q2 (nI_nm (by omega))
              exact hnext _ (some (2 * x + y)) (by rw [giver_step hc, hbn]; rfl)
            · cases hg : giverS S b x with
              | none => rw [hg] at q2; exact absurd rfl q2
              | some k =>
                obtain ⟨x', hx', hk⟩ := giver_some x k hg
                obtain ⟨j', t', -, -, -, ⟨y', hy', hky⟩, -, -⟩ := cand_some hS hk
                have hk16 : k < 16 := by omega
                have ek : enc (some k) = nI k := rfl
                rw [ek]
                refine ldA h.1 9 (n := 16) rfl (by decide) rfl rfl (show 2 * x + y < 16 by omega) (ldA h.1 8 (n := 16) rfl (by decide) rfl rfl hk16 ⟨vA h.1 9 (n := 16) (by decide) rfl rfl hk16, vA h.1 8 (n := 16) (by decide) rfl rfl (show 2 * x + y < 16 by omega), ?_⟩)
                rw [nI_clamp (n := k) (by omega), h.2.2.2.1 9 (by unfold isInt; decide) _ (show 2 * x + y < 16 by omega), h.2.2.2.1 9 (by unfold isInt; decide) k hk16, h.2.2.2.1 8 (by unfold isInt; decide) _ (show 2 * x + y < 16 by omega), h.2.2.2.1 8 (by unfold isInt; decide) k hk16]
                refine ⟨fun q3 => ?_, fun q3 => ?_⟩
                · refine hnext _ (some k) ?_
                  rw [giver_step hc, hg]
                  show (if mm S 9 (2 * x + y) * mm S 8 k < mm S 9 k * mm S 8 (2 * x + y) then some (2 * x + y) else some k) = some k
                  rw [if_neg (Int32.not_lt.mpr q3)]
                · unfold wb_Mo_exchange_198
                  refine hnext _ (some (2 * x + y)) ?_
                  rw [giver_step hc, hg]
                  show (if mm S 9 (2 * x + y) * mm S 8 k < mm S 9 k * mm S 8 (2 * x + y) then some (2 * x + y) else some k) = some (2 * x + y)
                  rw [if_pos (Int32.not_le.mp q3)]
end MO
end
section
/-! THE REFERENCE: a second -/
theorem k_half : ∀ k, k < 16 → nI k / 2 = nI (k / 2) := by decide
theorem mm_come (S : St) (i b : Nat) {k : Nat} (h : k ≠ 14 ∧ k ≠ 15 ∧ k ≠ 17 ∧ k ≠ 18 ∧ k ≠ 19) : mm (comeS S i b) k = mm S k := by
  unfold comeS
  rw [mm_ur, mm_um_ne _ _ _ h.2.2.2.2, mm_um_ne _ _ _ h.2.2.2.1, mm_um_ne _ _ _ h.2.2.1, mm_um_ne _ _ _ h.2.1, mm_um_ne _ _ _ h.1]
theorem eds_come (S : St) (i b : Nat) : eds (comeS S i b) = eds S := (rfl)
section MO
variable {e0 mi m : Nat} {A : Nat → Nat} {S : St} {w : Wd}
theorem M_pass {b : Nat} {x2 : Int32} {Q : Wd → Prop} (h : RM S w m A) (hS : okS S) (hb : b < nB S) (he : (eds S).length < 6000) (hQ : ∀ w', RM (passS S b) w' m A → FM m A w w' → Q w') : wb_Mo_exchange_78 e0 mi Q m (nI b) x2 w := by
  have hr := okS_R hS
  have hb8 : b < 8 := by have := hS.1.1; omega
  unfold wb_Mo_exchange_78
  refine ⟨h.1.1, M_missing h hb8 hr ⟨fun z => ⟨b + 1, ?_⟩, fun z => hQ w ?_ FM.rfl⟩⟩
  · have G := M_giver (e0 := e0) (mi := mi) (x2 := x2) (Q := Q) h hS hb ?_ b 0 (by omega)
    · exact G
    · intro n
      unfold wb_Mo_exchange_92
      refine ⟨fun _ => ⟨fun z1 => ?_, fun z1 => ?_⟩, fun q => absurd (nI_le (Nat.le_refl _) (by omega)) q⟩
      · cases hg : giverS S b b with
        | none => rw [hg] at z1; exact absurd rfl z1
        | some k =>
          obtain ⟨x, hx, hk⟩ := giver_some b k hg
          obtain ⟨j, t, ht, -, -, ⟨y, hy, hky⟩, h7, -⟩ := cand_some hS hk
          have hk2 : k / 2 = x := by omega
          have hk16 : k < 16 := by omega
          have hx8 : x < 8 := by omega
          have hj := hS.2.2.1 x j (by rw [ht]; exact List.mem_cons_self)
          have hj61 : j < 61 := by have := hj.2.1; have := hS.1.2.1; omega
          have hxb : b ≠ x := by omega
          have hj0 : (rr S x)[0]? = some j := by rw [ht]; rfl
          have hv0 := (h.2.2.2.2.1 x hx8).2 0 j hj0
          refine ⟨h.1.1, by decide, ?_⟩
          show ∃ a4 : Nat, _
          have ek : (60 : Int32) * (enc (some k) / 2) = nI (60 * x) := by
            show (60 : Int32) * (nI k / 2) = _
            rw [k_half k hk16, hk2, i60']
          refine ldA h.1 11 (n := 480) rfl (by decide) rfl ek (by omega) (fun i7 e7 => ?_)
          rw [ek, nI_clamp (by omega), show 60 * x = 60 * x + 0 from rfl, hv0] at e7
          subst e7
          refine M_leave h hx8 hj61 hj.2.2.2.1 hj0 (fun q hq => by omega) hr (fun w9 R9 F9 => ⟨R9.1.1, ?_⟩)
          have hbj : j ∉ rr S b := fun q => by
            have q2 := (hS.2.2.1 b j q).2.2.2.1
            rw [hj.2.2.2.1] at q2
            exact hxb ((nI_eq (by omega) (by omega)).mp q2).symm
          have hlb : (rr S b).length < 60 := by
            have := nodup_le (nT S) (j :: rr S b) (List.nodup_cons.mpr ⟨hbj, hS.2.2.2.1 b⟩) (fun i hi => by
              rcases List.mem_cons.mp hi with q | q
              · rw [q]; exact ⟨hj.1, hj.2.1⟩
              · exact ⟨(hS.2.2.1 b i q).1, (hS.2.2.1 b i q).2.1⟩)
            have := hS.1.2.1
            simp at *
            omega
          have et : (rr S x).eraseIdx 0 = t := by rw [ht]; rfl
          rw [et] at R9
          refine ldA R9.1 9 (n := 16) rfl (by decide) rfl (show enc (some k) = nI k from rfl) hk16 ⟨vA R9.1 9 (n := 16) (by decide) rfl (show enc (some k) = nI k from rfl) hk16, ?_⟩
          have ck : (enc (some k)).toNatClampNeg = k := nI_clamp (by omega)
          rw [ck, R9.2.2.2.1 9 (by unfold isInt; decide) k hk16, mm_ur]
          have R10 := RM_um R9 (k := 9) (i := k) (by unfold isInt; decide) (mm S 9 k + 1)
          have F10 := F9.ar (k := 9) (by decide) (isM_ne h.1 (by decide)) k (mm S 9 k + 1)
          have hrr : ∀ c, rr (um (ur S x t) 9 k (mm S 9 k + 1)) c = if c = x then t else rr S c := fun c => by rw [rr_um, rr_ur]
          refine M_come R10 hb8 hj61 (by rw [hrr, if_neg hxb]; exact hlb) (fun c hc => ?_) (fun w21 R21 F21 => ⟨R21.1.1, M_tell (kd := 2) R21 ?_ (fun w29 R29 F29 => ?_)⟩)
          · rw [hrr]
            by_cases hcx : c = x
            · rw [if_pos hcx]
              have q := hr x hx8
              rw [ht] at q
              exact ⟨by have := q.1; simp at this; omega, fun i hi => q.2 i (List.mem_cons_of_mem _ hi)⟩
            · rw [if_neg hcx]; exact hr c hc
          · rw [eds_come, eds_um]; exact he
          · refine hQ w29 ?_ ((F10.trans F21).trans F29)
            unfold passS
            rw [if_neg (Int32.not_lt.mpr z)]
            rw [mm_come _ _ _ (by decide), mm_um_ne _ _ _ (by decide), mm_ur] at R29
            simp only [hg, hk2, ht]
            exact R29
      · refine hQ w ?_ FM.rfl
        unfold passS
        rw [if_neg (Int32.not_lt.mpr z)]
        cases hg : giverS S b b with
        | none => exact h
        | some k =>
          rw [hg] at z1
          obtain ⟨x, hx, hk⟩ := giver_some b k hg
          obtain ⟨j, t, ht, -, -, ⟨y, hy, hky⟩, h7, -⟩ := cand_some hS hk
          exact absurd z1 (nI_nm (by omega))
  · unfold passS
    rw [if_pos (Int32.not_le.mp z)]
    exact h
theorem M_exchange {b : Nat} {Q : Wd → Prop} (h : RM S w m A) (hS : okS S) (hS1 : okS (outS S b)) (hb : b < nB S) (he : (eds S).length < 5990) (hQ : ∀ w', RM (exchS S b) w' m A → FM m A w w' → Q w') : wp_Mo_exchange e0 mi m (nI b) w Q := by
  have hr := okS_R hS
  have hb8 : b < 8 := by have := hS.1.1; omega
  have hg60 : (gos S).length ≤ 60 := by
    have := nodup_le (nT S) (gos S) hS.2.2.2.2.2.2.1.1 (fun i hi => ⟨(hS.2.2.2.2.2.2.1.2 i hi).1, (hS.2.2.2.2.2.2.1.2 i hi).2.1⟩)
    have := hS.1.2.1
    omega
  have same : outS S b = S → ∀ x2 : Int32, wb_Mo_exchange_78 e0 mi Q m (nI b) x2 w := fun hs x2 => M_pass h hS hb (by omega) (fun w' R' F' => hQ w' (by unfold exchS; rw [hs]; exact R') F')
  unfold wp_Mo_exchange
  refine ⟨h.1.1, M_atEnd h hb8 hr ?_⟩
  cases ha : atEndS S b with
  | none =>
    have hs : outS S b = S := by unfold outS; rw [ha]
    exact ⟨fun _ => same hs _, fun z => absurd (nI_le (a := 0) (b := 0) (Nat.le_refl _) (by omega)) z⟩
  | some i =>
    obtain ⟨t, ht, hpl⟩ := atEnd_some ha
    have hi := hS.2.2.1 b i (by rw [ht]; exact List.mem_cons_self)
    have hi61 : i < 61 := by have := hi.2.1; have := hS.1.2.1; omega
    have ci : (nI i).toNatClampNeg = i := nI_clamp (by omega)
    rw [show ((some i).getD 0) = i from rfl]
    refine ⟨fun z => absurd z (nI_nle hi.1 (by omega)), fun _ => ⟨h.1.1, M_goesBy h hb8 hi61 hi.2.2.2.1 hi.2.2.2.2 ?_⟩⟩
    rcases goes_gb (b := b) hi.2.2.2.2 with ⟨g1, g2⟩ | ⟨y, y1, g1, g2, -⟩
    · rw [g1]
      refine ⟨fun q => absurd rfl q, fun _ => ⟨h.1.1, ?_⟩⟩
      have hi0 : (rr S b)[0]? = some i := by rw [ht]; rfl
      refine M_leave h hb8 hi61 hi.2.2.2.1 hi0 (fun q hq => by omega) hr (fun w21 R21 F21 => ⟨R21.1.1, ldA R21.1 13 (n := 61) rfl (by decide) rfl rfl hi61 ?_⟩)
      rw [ci]
      have R22 := RM_um R21 (k := 13) (i := i) (by unfold isInt; decide) 1
      have F22 := F21.ar (k := 13) (by decide) (isM_ne h.1 (by decide)) i 1
      have l22 : wI (sI w21 (A 13) i 1) m 29 = nI (gos S).length := R22.2.2.1.2.2.2.2.2
      generalize sI w21 (A 13) i 1 = u22 at R22 F22 l22 ⊢
      refine ldA R22.1 31 (n := 60) rfl (by decide) rfl l22 (by
        have : (gos S).length < 60 := by
          have hni : i ∉ gos S := fun q => by
            have := (hS.2.2.2.2.2.2.1.2 i q).2.2
            rw [hi.2.2.1] at this
            exact absurd this (by decide)
          have := nodup_le (nT S) (i :: gos S) (List.nodup_cons.mpr ⟨hni, hS.2.2.2.2.2.2.1.1⟩) (fun j hj => by
            rcases List.mem_cons.mp hj with q | q
            · rw [q]; exact ⟨hi.1, hi.2.1⟩
            · exact ⟨(hS.2.2.2.2.2.2.1.2 j q).1, (hS.2.2.2.2.2.2.1.2 j q).2.1⟩)
          have := hS.1.2.1
          simp at *
          omega
        exact this) ?_
      rw [l22, nI_clamp (by omega)]
      have R23 := RM_go R22 i
      have F23 := (F22.ar (k := 31) (by decide) (isM_ne h.1 (by decide)) (gos S).length (nI i)).sc (s := 29) (by decide) (nI ((gos S).length + 1))
      have l23 : wI (sI u22 (A 31) (gos S).length (nI i)) m 29 = nI (gos S).length := by rw [sc_a R22.1 (by decide), l22]
      rw [l23, nI_1]
      have R23' : RM (ug (um (ur S b ((rr S b).eraseIdx 0)) 13 i 1) (gos S ++ [i])) (sI (sI u22 (A 31) (gos S).length (nI i)) m 29 (nI ((gos S).length + 1))) m A := R23
      generalize sI (sI u22 (A 31) (gos S).length (nI i)) m 29 (nI ((gos S).length + 1)) = u23 at R23' F23 ⊢
      refine ldA R23'.1 20 (n := 61) rfl (by decide) rfl rfl hi61 ?_
      have v30 : wI u23 m 30 = mm S 30 0 := by
        rw [R23'.2.1.2.2, mm_ug, mm_um_ne _ _ _ (by decide), mm_ur]
      have v1 : wI u23 m 1 = mm S 1 0 := by
        rw [R23'.2.1.1, mm_ug, mm_um_ne _ _ _ (by decide), mm_ur]
      have v20 : wI u23 (A 20) i = mm S 20 i := by
        rw [R23'.2.2.2.1 20 (by unfold isInt; decide) i hi61, mm_ug, mm_um_ne _ _ _ (by decide), mm_ur]
      rw [v30, v1, v20]
      have R24 := RM_sum R23' (mm S 30 0 + (mm S 1 0 - mm S 20 i))
      have F24 := F23.sc (s := 30) (by decide) (mm S 30 0 + (mm S 1 0 - mm S 20 i))
      refine M_tell (kd := 1) R24 (by rw [eds_um, eds_ug, eds_um, eds_ur]; omega) (fun w38 R38 F38 => ?_)
      have hout : outS S b = tellS (um (ug (um (ur S b ((rr S b).eraseIdx 0)) 13 i 1) (gos S ++ [i])) 30 0 (mm S 30 0 + (mm S 1 0 - mm S 20 i))) (mm S 1 0, 1, i, b) := by
        unfold outS; rw [ha]; simp only [g2]
      rw [mm_um_ne _ _ _ (by decide), mm_ug, mm_um_ne _ _ _ (by decide), mm_ur, ← hout] at R38
      have hlo : (eds (outS S b)).length = (eds S).length + 1 := by rw [hout]; unfold tellS; rw [eds_ue, eds_um, eds_ug, eds_um, eds_ur]; simp
      have hnb : nB (outS S b) = nB S := by rw [hout]; rfl
      exact M_pass R38 hS1 (by rw [hnb]; exact hb) (by omega) (fun w' R' F' => hQ w' R' ((F24.trans F38).trans F'))
    · rw [g1]
      have hs : outS S b = S := by unfold outS; rw [ha]; simp only [g2]
      exact ⟨fun _ => same hs _, fun q => absurd q (nI_nm (by omega))⟩
end MO
end
section
/-! THE REFERENCE: a belt's items move -/
theorem um_um (S : St) (k i : Nat) (a b : Int32) : um (um S k i a) k i b = um S k i b := by
  have e : va_up (mm (um S k i a)) k (va_up (mm (um S k i a) k) i b) = va_up (mm S) k (va_up (mm S k) i b) := by
    funext x y
    unfold va_up
    by_cases hx : x = k
    · subst hx
      rw [if_pos rfl, if_pos rfl]
      by_cases hy : y = i
      · rw [if_pos hy, if_pos hy]
      · rw [if_neg hy, if_neg hy, mm_um, if_neg (fun z => hy z.2)]
    · rw [if_neg hx, if_neg hx]
      rw [mm_um, if_neg (fun z => hx z.1)]
  show (va_up (mm (um S k i a)) k (va_up (mm (um S k i a) k) i b), _) = (va_up (mm S) k (va_up (mm S k) i b), _)
  rw [e]
  rfl
theorem pk_0 (t : Int32) (i s : Nat) : pk (t, 0, i, s) = ((t.toInt64 <<< ((32 : Int32).toInt64 &&& 63)) ||| ((nI i).toInt64 <<< ((8 : Int32).toInt64 &&& 63))) ||| (nI s).toInt64 := by
  unfold pk
  show ((_ ||| ((nI 0).toInt64 <<< ((24 : Int32).toInt64 &&& 63))) ||| _) ||| _ = _
  rw [show (nI 0).toInt64 <<< ((24 : Int32).toInt64 &&& 63) = 0 by decide, Int64.or_zero]
section MO
variable {e0 mi m : Nat} {A : Nat → Nat}
theorem M_scan {S : St} {b i N : Nat} {x2 x4 to : Int32} {K2 : Nat → Int32 → Int32 → Wd → Prop} {Q : Wd → Prop} {w0 : Wd} (hb : b < 8) (hi : i < 61) (hn4 : nS S ≤ 4) (hwt : (wts S ++ rdsS S b i (mm S 15 i) to (nS S)).length < 3000)
    (hQ : ∀ w', RM (um (uw S (wts S ++ rdsS S b i (mm S 15 i) to (nS S)) N) 15 i to) w' m A → FM m A w0 w' → ∀ i6 : Int32, i6 = x2 + 1 → K2 m (nI b) i6 w') :
    ∀ (n s : Nat) (w : Wd), s + n = nS S → RM (uw S (wts S ++ rdsS S b i (mm S 15 i) to s) N) w m A → FM m A w0 w → wb_Mo_move_194 e0 mi K2 Q (n + 1) m (nI b) x2 (nI i) x4 to (nI s) w := by
  have ci : (nI i).toNatClampNeg = i := nI_clamp (by omega)
  have mono : ∀ (d s : Nat), (rdsS S b i (mm S 15 i) to s).length ≤ (rdsS S b i (mm S 15 i) to (s + d)).length := fun d => by
    induction d with
    | zero => intro s; exact Nat.le_refl _
    | succ d ih =>
      intro s
      refine Nat.le_trans (ih s) ?_
      rw [← Nat.add_assoc]
      conv => rhs; unfold rdsS
      simp
  intro n
  induction n with
  | zero =>
    intro s w hs R F
    have hss : s = nS S := by omega
    subst hss
    unfold wb_Mo_move_194
    have l21 : wI w m 21 = nI (nS S) := R.2.2.1.2.2.1
    rw [l21]
    refine ⟨R.1.1, fun _ => ldA R.1 15 (n := 61) rfl (by decide) rfl rfl hi ?_, fun z => absurd (nI_le (Nat.le_refl _) (by omega)) z⟩
    rw [ci]
    exact hQ _ (RM_um R (by unfold isInt; decide) to) (F.ar (by decide) (isM_ne R.1 (by decide)) _ _)
  | succ n ih =>
    intro s w hs R F
    have hs4 : s < 4 := by omega
    have cs : (nI s).toNatClampNeg = s := nI_clamp (by omega)
    unfold wb_Mo_move_194
    have l21 : wI w m 21 = nI (nS S) := R.2.2.1.2.2.1
    rw [l21]
    have next : ∀ (u : Wd), RM (uw S (wts S ++ rdsS S b i (mm S 15 i) to (s + 1)) N) u m A → FM m A w0 u → wb_Mo_move_290 e0 mi K2 (wb_Mo_move_194 e0 mi K2 Q (n + 1)) Q m (nI b) x2 (nI i) x4 to (nI s) u := fun u Ru Fu => by
      unfold wb_Mo_move_290
      intro i1 e1
      rw [e1, nI_1]
      exact ih (s + 1) u (by omega) Ru Fu
    have stay : ¬ (mm S 22 s = nI b ∧ mm S 15 i < mm S 23 s ∧ mm S 23 s ≤ to) → RM (uw S (wts S ++ rdsS S b i (mm S 15 i) to (s + 1)) N) w m A := fun hno => by
      have e : rdsS S b i (mm S 15 i) to (s + 1) = rdsS S b i (mm S 15 i) to s := by
        conv => lhs; unfold rdsS
        rw [if_neg hno, List.append_nil]
      rw [e]; exact R
    have v22 : wI w (A 22) s = mm S 22 s := R.2.2.2.1 22 (by unfold isInt; decide) s hs4
    have v23 : wI w (A 23) s = mm S 23 s := R.2.2.2.1 23 (by unfold isInt; decide) s hs4
    have v24 : wI w (A 24) s = mm S 24 s := R.2.2.2.1 24 (by unfold isInt; decide) s hs4
    have v15 : wI w (A 15) i = mm S 15 i := R.2.2.2.1 15 (by unfold isInt; decide) i hi
    have v1 : wI w m 1 = mm S 1 0 := R.2.1.1
    have l25 : wI w m 25 = nI (wts S ++ rdsS S b i (mm S 15 i) to s).length := R.2.2.1.2.2.2.1
    refine ⟨R.1.1, fun z => absurd z (nI_ge (by omega) (by omega)), fun _ => ldA R.1 22 (n := 4) rfl (by decide) rfl rfl hs4 ?_⟩
    rw [cs, v22]
    refine ⟨fun z => next w (stay (fun q => z q.1)) F, fun z => ldA R.1 15 (n := 61) rfl (by decide) rfl rfl hi (ldA R.1 23 (n := 4) rfl (by decide) rfl rfl hs4 ?_)⟩
    rw [ci, v15, v23]
    refine ⟨fun z2 => next w (stay (fun q => absurd q.2.1 (Int32.not_lt.mpr z2))) F, fun z2 => ⟨vA R.1 23 (n := 4) (by decide) rfl rfl hs4, fun z3 => ldA R.1 24 (n := 4) rfl (by decide) rfl rfl hs4 ?_, fun z3 => next w (stay (fun q => z3 q.2.2)) F⟩⟩
    have hyes : mm S 22 s = nI b ∧ mm S 15 i < mm S 23 s ∧ mm S 23 s ≤ to := ⟨z, Int32.not_le.mp z2, z3⟩
    have e : rdsS S b i (mm S 15 i) to (s + 1) = rdsS S b i (mm S 15 i) to s ++ [(mm S 1 0 + mm S 24 s, 0, i, s)] := by
      conv => lhs; unfold rdsS
      rw [if_pos hyes]
    have hlen : (wts S ++ rdsS S b i (mm S 15 i) to s).length < 3000 := by
      have := mono (nS S - s) s
      rw [show s + (nS S - s) = nS S by omega] at this
      simp at hwt ⊢
      omega
    refine ldA R.1 26 (n := 3000) rfl (by decide) rfl l25 hlen ?_
    rw [l25, nI_clamp (by omega), v1, v24, pI_J, l25, nI_1, ← pk_0]
    have R2 := RM_wt R (mm S 1 0 + mm S 24 s, 0, i, s) N
    refine next _ ?_ ((F.arJ (by decide) _ _).sc (by decide) _)
    rw [e, ← List.append_assoc]
    exact R2
end MO
end
section
/-! THE REFERENCE: an item moves; all items of a belt -/
theorem rds_um {S : St} {k j : Nat} {v : Int32} (hk : k ≠ 22 ∧ k ≠ 23 ∧ k ≠ 24 ∧ k ≠ 1) (b i : Nat) (o n : Int32) : ∀ s, rdsS (um S k j v) b i o n s = rdsS S b i o n s
  | 0 => rfl
  | s + 1 => by
    unfold rdsS
    rw [rds_um hk b i o n s, mm_um_ne S j v (Ne.symm hk.1), mm_um_ne S j v (Ne.symm hk.2.1), mm_um_ne S j v (Ne.symm hk.2.2.1), mm_um_ne S j v (Ne.symm hk.2.2.2)]
theorem wts_mv1 (S : St) (b : Nat) (most : Int32) (i : Nat) : wts (mv1S S b most i) = wts S ++ rdsS S b i (mm S 15 i) (toS S b most i) (nS S) := (rfl)
theorem rr_mv1 (S : St) (b : Nat) (most : Int32) (i : Nat) : rr (mv1S S b most i) = rr S := (rfl)
theorem nS_mv1 (S : St) (b : Nat) (most : Int32) (i : Nat) : nS (mv1S S b most i) = nS S := (rfl)
theorem wts_mvL (b : Nat) : ∀ (l : List Nat) (S : St) (p : Option Nat), (wts S).length ≤ (wts (mvLS S b p l)).length
  | [], S, p => by unfold mvLS; exact Nat.le_refl _
  | i :: t, S, p => by
    unfold mvLS
    refine Nat.le_trans ?_ (wts_mvL b t _ _)
    rw [wts_mv1]; simp
section MO
variable {e0 mi m : Nat} {A : Nat → Nat}
theorem M_mv1 {S : St} {b i : Nat} {x2 most : Int32} {K2 : Nat → Int32 → Int32 → Wd → Prop} {Q : Wd → Prop} {w : Wd} (h : RM S w m A) (hb : b < 8) (hi : i < 61) (hn4 : nS S ≤ 4) (hwt : (wts (mv1S S b most i)).length < 3000)
    (hQ : ∀ w', RM (mv1S S b most i) w' m A → FM m A w w' → ∀ i6 : Int32, i6 = x2 + 1 → K2 m (nI b) i6 w') : wb_Mo_move_59 e0 mi K2 Q m (nI b) x2 (nI i) most w := by
  have ci : (nI i).toNatClampNeg = i := nI_clamp (by omega)
  have c : (nI b).toNatClampNeg = b := nI_clamp (by omega)
  have v15 : wI w (A 15) i = mm S 15 i := h.2.2.2.1 15 (by unfold isInt; decide) i hi
  have v19 : wI w (A 19) i = mm S 19 i := h.2.2.2.1 19 (by unfold isInt; decide) i hi
  have v5 : wI w (A 5) b = mm S 5 b := h.2.2.2.1 5 (by unfold isInt; decide) b hb
  have v4 : wI w (A 4) b = mm S 4 b := h.2.2.2.1 4 (by unfold isInt; decide) b hb
  -- behind the choice of the place
  have L4 : ∀ (t2 to : Int32), to = toS S b most i → wb_Mo_move_138 e0 mi K2 Q m (nI b) x2 (nI i) most t2 to w := fun t2 to hto => by
    unfold wb_Mo_move_138
    refine ⟨h.1.1, ldA h.1 19 (n := 61) rfl (by decide) rfl rfl hi (ldA h.1 5 (n := 8) rfl (by decide) rfl rfl hb ⟨vA h.1 19 (n := 61) (by decide) rfl rfl hi, ?_⟩)⟩
    rw [ci, c, v19, v5]
    have R1 := RM_um h (k := 19) (i := i) (by unfold isInt; decide) (mm S 19 i + mm S 5 b)
    have F1 := (FM.rfl (m := m) (A := A) (w := w)).ar (k := 19) (by decide) (isM_ne h.1 (by decide)) i (mm S 19 i + mm S 5 b)
    have q19 : wI (sI w (A 19) i (mm S 19 i + mm S 5 b)) (A 19) i = mm S 19 i + mm S 5 b := by rw [pI_I, if_pos ⟨rfl, rfl⟩]
    have q4 : wI (sI w (A 19) i (mm S 19 i + mm S 5 b)) (A 4) b = mm S 4 b := by rw [pI_I, if_neg (fun z => isM_nn h.1 (j := 4) (k := 19) (by decide) (by decide) (by decide) z.1), v4]
    generalize sI w (A 19) i (mm S 19 i + mm S 5 b) = u at R1 F1 q19 q4 ⊢
    have L5 : ∀ z2 : Int32, z2 = expS S b i → wb_Mo_move_190 e0 mi K2 Q m (nI b) x2 (nI i) most to (wR u m 19) (nI i) z2 u := fun z2 hz2 => by
      unfold wb_Mo_move_190
      refine ldA R1.1 19 (n := 61) rfl (by decide) rfl rfl hi ⟨nS S + 1, ?_⟩
      rw [ci]
      have R2 := RM_um R1 (k := 19) (i := i) (by unfold isInt; decide) z2
      rw [um_um] at R2
      have F2 := F1.ar (k := 19) (by decide) (isM_ne h.1 (by decide)) i z2
      have m15 : mm (um S 19 i z2) 15 i = mm S 15 i := by rw [mm_um_ne S i z2 (by decide)]
      have er : rdsS (um S 19 i z2) b i (mm (um S 19 i z2) 15 i) to (nS S) = rdsS S b i (mm S 15 i) (toS S b most i) (nS S) := by rw [rds_um (by decide), m15, hto]
      refine M_scan (S := um S 19 i z2) (N := max (wX S) (wts S ++ rdsS S b i (mm S 15 i) (toS S b most i) (nS S)).length) (w0 := w) hb hi hn4 ?_ (fun w' R' F' => ?_) (nS S) 0 _ (by rw [nS_um]; omega) ?_ F2
      · rw [nS_um, er, wts_um, ← wts_mv1]; exact hwt
      · rw [nS_um, er, wts_um, hto, hz2] at R'
        exact hQ w' R' F'
      · have e0' : wts (um S 19 i z2) ++ rdsS (um S 19 i z2) b i (mm (um S 19 i z2) 15 i) to 0 = wts (um S 19 i z2) := by unfold rdsS; rw [List.append_nil]
        rw [e0']
        exact R2
    refine ldA R1.1 19 (n := 61) rfl (by decide) rfl rfl hi (ldA R1.1 4 (n := 8) rfl (by decide) rfl rfl hb ?_)
    rw [q19, q4]
    refine ⟨fun z => ⟨vA R1.1 19 (n := 61) (by decide) rfl rfl hi, L5 _ ?_⟩, fun z => ⟨vA R1.1 4 (n := 8) (by decide) rfl rfl hb, L5 _ ?_⟩⟩
    · unfold expS; rw [if_neg (Int32.not_lt.mpr z)]
    · unfold expS; rw [if_pos (Int32.not_le.mp z)]
  unfold wb_Mo_move_59
  refine ⟨h.1.1, ldA h.1 15 (n := 61) rfl (by decide) rfl rfl hi (ldA h.1 5 (n := 8) rfl (by decide) rfl rfl hb (fun i8 e8 => ?_))⟩
  rw [ci, c, v15, v5] at e8
  have L3 : ∀ t1 t2 : Int32, t1 = (if mm S 4 b < i8 then mm S 4 b else i8) → t2 = (if most < t1 then most else t1) → wb_Mo_move_114 e0 mi K2 Q m (nI b) x2 (nI i) most t1 t2 w := fun t1 t2 h1 h2 => by
    unfold wb_Mo_move_114
    refine ⟨h.1.1, ldA h.1 15 (n := 61) rfl (by decide) rfl rfl hi ?_⟩
    rw [ci, v15]
    refine ⟨fun z => L4 _ _ ?_, fun z => ⟨vA h.1 15 (n := 61) (by decide) rfl rfl hi, L4 _ _ ?_⟩⟩
    · unfold toS
      simp only []
      rw [← e8, ← h1, ← h2, if_neg (Int32.not_lt.mpr z)]
    · unfold toS
      simp only []
      rw [← e8, ← h1, ← h2, if_pos (Int32.not_le.mp z)]
  have L2 : ∀ t1 : Int32, t1 = (if mm S 4 b < i8 then mm S 4 b else i8) → wb_Mo_move_98 e0 mi K2 Q m (nI b) x2 (nI i) most i8 t1 w := fun t1 h1 => by
    unfold wb_Mo_move_98
    refine ⟨fun z => L3 _ _ h1 ?_, fun z => L3 _ _ h1 ?_⟩
    · rw [if_neg (Int32.not_lt.mpr z)]
    · rw [if_pos (Int32.not_le.mp z)]
  refine ldA h.1 4 (n := 8) rfl (by decide) rfl rfl hb ?_
  rw [c, v4]
  refine ⟨fun z => L2 _ ?_, fun z => ⟨vA h.1 4 (n := 8) (by decide) rfl rfl hb, L2 _ ?_⟩⟩
  · rw [if_neg (Int32.not_lt.mpr z)]
  · rw [if_pos (Int32.not_le.mp z)]
def prevS (l : List Nat) (k : Nat) : Option Nat := if k = 0 then none else l[k - 1]?
theorem M_move_l {b : Nat} {l : List Nat} {Q : Wd → Prop} {w0 : Wd} (hb : b < 8) (hl : l.length ≤ 60) (hl2 : ∀ i ∈ l, i < 61) : ∀ (n k : Nat) (S : St) (w : Wd), k + n = l.length → rr S b = l → nS S ≤ 4 → RM S w m A → FM m A w0 w → (wts (mvLS S b (prevS l k) (l.drop k))).length < 3000 →
    (∀ w', RM (mvLS S b (prevS l k) (l.drop k)) w' m A → FM m A w0 w' → Q w') → wb_Mo_move_2 e0 mi Q (n + 1) m (nI b) (nI k) w := by
  have c : (nI b).toNatClampNeg = b := nI_clamp (by omega)
  intro n
  induction n with
  | zero =>
    intro k S w hk hr hn4 R F hwt hQ
    have hkl : k = l.length := by omega
    have hd : l.drop k = [] := by rw [hkl]; exact List.drop_length
    rw [hd] at hQ
    unfold mvLS at hQ
    unfold wb_Mo_move_2
    refine ⟨R.1.1, ldA R.1 10 (n := 8) rfl (by decide) rfl rfl hb ?_⟩
    rw [c, (R.2.2.2.2.1 b hb).1, hr]
    exact ⟨fun _ => hQ w R F, fun z => absurd (nI_le (by omega) (by omega)) z⟩
  | succ n ih =>
    intro k S w hk hr hn4 R F hwt hQ
    have hkl : k < l.length := by omega
    obtain ⟨i, hi⟩ : ∃ i, l[k]? = some i := ⟨l[k], List.getElem?_eq_getElem hkl⟩
    have hi61 : i < 61 := hl2 i (List.mem_of_getElem? hi)
    have hd : l.drop k = i :: l.drop (k + 1) := by
      rw [List.drop_eq_getElem_cons hkl]
      have := List.getElem?_eq_getElem hkl
      rw [hi] at this
      cases this
      rfl
    have hp1 : prevS l (k + 1) = some i := by unfold prevS; rw [if_neg (by omega)]; exact hi
    rw [hd] at hQ hwt
    have em : mvLS S b (prevS l k) (i :: l.drop (k + 1)) = mvLS (mv1S S b (mostS S b (prevS l k)) i) b (prevS l (k + 1)) (l.drop (k + 1)) := by
      rw [hp1]; conv => lhs; unfold mvLS
    rw [em] at hQ hwt
    have hw1 : (wts (mv1S S b (mostS S b (prevS l k)) i)).length < 3000 := Nat.lt_of_le_of_lt (wts_mvL b _ _ _) hwt
    have L : ∀ most : Int32, most = mostS S b (prevS l k) → wb_Mo_move_59 e0 mi (wb_Mo_move_2 e0 mi Q (n + 1)) Q m (nI b) (nI k) (nI i) most w := fun most hm => by
      rw [hm]
      refine M_mv1 R hb hi61 hn4 hw1 (fun w' R' F' i6 e6 => ?_)
      rw [e6, nI_1]
      exact ih (k + 1) _ w' (by omega) (by rw [rr_mv1]; exact hr) (by rw [nS_mv1]; exact hn4) R' (F.trans F') hwt hQ
    have hrow : ∀ j x, l[j]? = some x → wI w (A 11) (60 * b + j) = nI x := fun j x hx => (R.2.2.2.2.1 b hb).2 j x (by rw [hr]; exact hx)
    unfold wb_Mo_move_2
    refine ⟨R.1.1, ldA R.1 10 (n := 8) rfl (by decide) rfl rfl hb ?_⟩
    rw [c, (R.2.2.2.2.1 b hb).1, hr]
    refine ⟨fun z => absurd z (nI_ge hkl (by omega)), fun _ => ldA R.1 11 (n := 480) rfl (by decide) rfl (i60 b k) (by omega) (fun i9 e9 => ?_)⟩
    rw [i60, nI_clamp (by omega), hrow k i hi] at e9
    subst e9
    refine ⟨fun z => ?_, fun z => ?_⟩
    · have hk0 : 0 < k := by
        rcases Nat.eq_zero_or_pos k with q | q
        · subst q; exact absurd rfl z
        · exact q
      have e1 : ((60 : Int32) * nI b + nI k) - 1 = nI (60 * b + (k - 1)) := by
        rw [i60, show 60 * b + k = (60 * b + (k - 1)) + 1 by omega, nI_pred]
      obtain ⟨a, ha⟩ : ∃ a, l[k - 1]? = some a := ⟨l[k - 1]'(by omega), List.getElem?_eq_getElem (by omega)⟩
      refine ⟨vA R.1 11 (n := 480) (by decide) rfl e1 (by omega), ?_⟩
      rw [e1, nI_clamp (by omega), hrow (k - 1) a ha]
      refine M_rear R (hl2 a (List.mem_of_getElem? ha)) ⟨R.1.1, L _ ?_⟩
      rw [R.2.1.2.1]
      unfold prevS
      rw [if_neg (by omega), ha]
      rfl
    · have hk0 : k = 0 := (nI_eq (b := 0) (by omega) (by omega)).mp z
      refine ldA R.1 4 (n := 8) rfl (by decide) rfl rfl hb (L _ ?_)
      rw [R.2.2.2.1 4 (by unfold isInt; decide) b hb]
      unfold prevS
      rw [if_pos hk0]
      rfl
theorem M_move {S : St} {b : Nat} {Q : Wd → Prop} {w : Wd} (h : RM S w m A) (hb : b < 8) (hr : okR S) (hn4 : nS S ≤ 4) (hwt : (wts (moveS S b)).length < 3000) (hQ : ∀ w', RM (moveS S b) w' m A → FM m A w w' → Q w') : wp_Mo_move e0 mi m (nI b) w Q := by
  unfold wp_Mo_move
  have hlen := (hr b hb).1
  have e0' : mvLS S b (prevS (rr S b) 0) ((rr S b).drop 0) = moveS S b := rfl
  exact ⟨(rr S b).length + 1, M_move_l (l := rr S b) (w0 := w) hb hlen (fun i hi => by have := ((hr b hb).2 i hi).2; omega) (rr S b).length 0 S w (by omega) rfl hn4 h FM.rfl (by rw [e0']; exact hwt) (by rw [e0']; exact hQ)⟩
end MO
end
section
/-! THE REFERENCE'S LONGS: the finite part -/
/-- the part of an edge's long that is below 2 to the 32 -/
def pkY (k i o : Nat) : Int64 := (((nI k).toInt64 <<< ((24 : Int32).toInt64 &&& 63)) ||| ((nI i).toInt64 <<< ((8 : Int32).toInt64 &&& 63))) ||| (nI o).toInt64
set_option maxRecDepth 100000 in
set_option maxHeartbeats 4000000 in
theorem pkY_facts : ∀ k, k < 3 → ∀ i, i < 61 → ∀ o, o < 8 → (pkY k i o >>> ((32 : Int32).toInt64 &&& 63) = 0 ∧ ((pkY k i o >>> ((24 : Int32).toInt64 &&& 63)) &&& (255 : Int64)).toInt32 = nI k ∧ ((pkY k i o >>> ((8 : Int32).toInt64 &&& 63)) &&& (65535 : Int64)).toInt32 = nI i ∧ ((pkY k i o >>> ((8 : Int32).toInt64 &&& 63)) &&& (255 : Int64)).toInt32 = nI i ∧ (pkY k i o &&& (255 : Int64)).toInt32 = nI o) := by
  decide +kernel
end
section
/-! THE REFERENCE'S LONGS: what is read out of them -/
theorem bv_hiz (s : BitVec 64) (n k : Nat) (h : n + k ≤ 32) : (s <<< 32).sshiftRight n &&& BitVec.ofNat 64 (2 ^ k - 1) = 0#64 := by
  apply BitVec.eq_of_getLsbD_eq
  intro i hi
  rw [BitVec.getLsbD_and, BitVec.getLsbD_sshiftRight, BitVec.getLsbD_ofNat, Nat.testBit_two_pow_sub_one]
  by_cases hk : i < k
  · have h1 : n + i < 64 := by omega
    have h2 : n + i < 32 := by omega
    simp [h1, h2, BitVec.getLsbD_shiftLeft, hi]
  · simp [hk]
theorem bv_hi (s : BitVec 32) : ((s.signExtend 64 <<< 32).sshiftRight 32).setWidth 32 = s := by
  apply BitVec.eq_of_getLsbD_eq
  intro i hi
  rw [BitVec.getLsbD_setWidth, BitVec.getLsbD_sshiftRight]
  have h1 : 32 + i < 64 := by omega
  have h2 : ¬ 64 ≤ i := by omega
  have h3 : i < 64 := by omega
  have h4 : ¬ 32 + i < 32 := by omega
  simp [h1, h2, h3, h4, hi, BitVec.getLsbD_shiftLeft, BitVec.getElem_signExtend]
theorem pk_split (t : Int32) (k i o : Nat) : pk (t, k, i, o) = (t.toInt64 <<< ((32 : Int32).toInt64 &&& 63)) ||| pkY k i o := by
  unfold pk pkY
  show ((_ ||| _) ||| _) ||| _ = _ ||| ((_ ||| _) ||| _)
  rw [Int64.or_assoc, Int64.or_assoc, Int64.or_assoc]
theorem bv_c32 : ((32 : Int32).toInt64 &&& 63).toBitVec.smod 64 = 32#64 := by decide
theorem bv_c24 : ((24 : Int32).toInt64 &&& 63).toBitVec.smod 64 = 24#64 := by decide
theorem bv_c8 : ((8 : Int32).toInt64 &&& 63).toBitVec.smod 64 = 8#64 := by decide
theorem pq_sr (x y : Int64) (c : Int64) : (x ||| y) >>> c = (x >>> c) ||| (y >>> c) := by
  apply Int64.toBitVec_inj.mp
  rw [Int64.toBitVec_shiftRight, Int64.toBitVec_or, Int64.toBitVec_or, Int64.toBitVec_shiftRight, Int64.toBitVec_shiftRight]
  exact BitVec.sshiftRight_or_distrib _ _ _
theorem pq_and (x y z : Int64) : (x ||| y) &&& z = (x &&& z) ||| (y &&& z) := by
  apply Int64.toBitVec_inj.mp
  rw [Int64.toBitVec_and, Int64.toBitVec_or, Int64.toBitVec_or, Int64.toBitVec_and, Int64.toBitVec_and]
  exact BitVec.and_or_distrib_right
theorem pk_z24 (x : Int64) : ((x <<< ((32 : Int32).toInt64 &&& 63)) >>> ((24 : Int32).toInt64 &&& 63)) &&& (255 : Int64) = 0 := by
  apply Int64.toBitVec_inj.mp
  rw [Int64.toBitVec_and, Int64.toBitVec_shiftRight, Int64.toBitVec_shiftLeft, bv_c24, bv_c32]
  exact bv_hiz x.toBitVec 24 8 (by decide)
theorem pk_z8 (x : Int64) : ((x <<< ((32 : Int32).toInt64 &&& 63)) >>> ((8 : Int32).toInt64 &&& 63)) &&& (65535 : Int64) = 0 := by
  apply Int64.toBitVec_inj.mp
  rw [Int64.toBitVec_and, Int64.toBitVec_shiftRight, Int64.toBitVec_shiftLeft, bv_c8, bv_c32]
  exact bv_hiz x.toBitVec 8 16 (by decide)
theorem pk_z8b (x : Int64) : ((x <<< ((32 : Int32).toInt64 &&& 63)) >>> ((8 : Int32).toInt64 &&& 63)) &&& (255 : Int64) = 0 := by
  apply Int64.toBitVec_inj.mp
  rw [Int64.toBitVec_and, Int64.toBitVec_shiftRight, Int64.toBitVec_shiftLeft, bv_c8, bv_c32]
  exact bv_hiz x.toBitVec 8 8 (by decide)
theorem pk_z0 (x : Int64) : (x <<< ((32 : Int32).toInt64 &&& 63)) &&& (255 : Int64) = 0 := by
  apply Int64.toBitVec_inj.mp
  rw [Int64.toBitVec_and, Int64.toBitVec_shiftLeft, bv_c32]
  have := bv_hiz x.toBitVec 0 8 (by decide)
  rw [BitVec.sshiftRight_zero] at this
  exact this
theorem pk_hi (t : Int32) : ((t.toInt64 <<< ((32 : Int32).toInt64 &&& 63)) >>> ((32 : Int32).toInt64 &&& 63)).toInt32 = t := by
  apply Int32.toBitVec_inj.mp
  rw [Int64.toBitVec_toInt32, Int64.toBitVec_shiftRight, Int64.toBitVec_shiftLeft, bv_c32, Int32.toBitVec_toInt64, BitVec.shiftLeft_eq', BitVec.sshiftRight_eq', show (32#64).toNat = 32 by decide, BitVec.signExtend_eq_setWidth_of_le _ (show 32 ≤ 64 by decide)]
  exact bv_hi t.toBitVec
theorem pk_time (t : Int32) {k i o : Nat} (hk : k < 3) (hi : i ≤ 60) (ho : o < 8) : (pk (t, k, i, o) >>> ((32 : Int32).toInt64 &&& 63)).toInt32 = t := by
  rw [pk_split, pq_sr, (pkY_facts k hk i (by omega) o ho).1, Int64.or_zero, pk_hi]
theorem pk_kind (t : Int32) {k i o : Nat} (hk : k < 3) (hi : i ≤ 60) (ho : o < 8) : ((pk (t, k, i, o) >>> ((24 : Int32).toInt64 &&& 63)) &&& (255 : Int64)).toInt32 = nI k := by
  rw [pk_split, pq_sr, pq_and, pk_z24, Int64.zero_or]
  exact (pkY_facts k hk i (by omega) o ho).2.1
theorem pk_item (t : Int32) {k i o : Nat} (hk : k < 3) (hi : i ≤ 60) (ho : o < 8) : ((pk (t, k, i, o) >>> ((8 : Int32).toInt64 &&& 63)) &&& (65535 : Int64)).toInt32 = nI i := by
  rw [pk_split, pq_sr, pq_and, pk_z8, Int64.zero_or]
  exact (pkY_facts k hk i (by omega) o ho).2.2.1
theorem pk_item8 (t : Int32) {k i o : Nat} (hk : k < 3) (hi : i ≤ 60) (ho : o < 8) : ((pk (t, k, i, o) >>> ((8 : Int32).toInt64 &&& 63)) &&& (255 : Int64)).toInt32 = nI i := by
  rw [pk_split, pq_sr, pq_and, pk_z8b, Int64.zero_or]
  exact (pkY_facts k hk i (by omega) o ho).2.2.2.1
theorem pk_where (t : Int32) {k i o : Nat} (hk : k < 3) (hi : i ≤ 60) (ho : o < 8) : (pk (t, k, i, o) &&& (255 : Int64)).toInt32 = nI o := by
  rw [pk_split, pq_and, pk_z0, Int64.zero_or]
  exact (pkY_facts k hk i (by omega) o ho).2.2.2.2
end
section
/-! THE REFERENCE: what is read is told -/
theorem RM_wset {S : St} {w : Wd} {m : Nat} {A : Nat → Nat} (h : RM S w m A) (j : Nat) (e : Ed) (n : Nat) : RM (uw S ((wts S).set j e) n) (sJ w (A 26) j (pk e)) m A := by
  obtain ⟨h1, h2, ⟨b1, b2, b3, b4, b5, b6⟩, h4, h5, h6, h7, h8⟩ := h
  refine ⟨h1, h2, ⟨b1, b2, b3, ?_, b5, b6⟩, h4, h5, fun x y hx => ?_, fun x y hx => ?_, h8⟩
  · rw [wts_uw, List.length_set]; exact b4
  · rw [wts_uw] at hx
    rw [pJ_J]
    by_cases hxj : x = j
    · rw [if_pos ⟨rfl, hxj⟩]
      subst hxj
      have hlt := (List.getElem?_eq_some_iff.mp hx).1
      rw [List.length_set] at hlt
      rw [List.getElem?_set_self hlt] at hx
      cases hx
      rfl
    · rw [if_neg (fun z => hxj z.2)]
      rw [List.getElem?_set_ne (Ne.symm hxj)] at hx
      exact h6 x y hx
  · rw [pJ_J, if_neg (fun z => isM_nn h1 (j := 28) (k := 26) (by decide) (by decide) (by decide) z.1)]
    exact h7 x y hx
theorem RM_wcut {S : St} {w : Wd} {m : Nat} {A : Nat → Nat} (h : RM S w m A) (j n : Nat) (hj : j ≤ (wts S).length) : RM (uw S ((wts S).take j) n) (sI w m 25 (nI j)) m A := by
  obtain ⟨h1, ⟨a1, a2, a3⟩, ⟨b1, b2, b3, b4, b5, b6⟩, h4, h5, h6, h7, h8⟩ := h
  have ns : ∀ s, s ≠ 25 → wI (sI w m 25 (nI j)) m s = wI w m s := fun s hs => by rw [pI_I, if_neg (fun z => hs z.2)]
  have no : ∀ k, 0 < mKd k → ∀ s, wI (sI w m 25 (nI j)) (A k) s = wI w (A k) s := fun k hk s => by rw [pI_I, if_neg (fun z => isM_ne h1 hk z.1)]
  refine ⟨isM_st h1 _ _ _, ⟨?_, ?_, ?_⟩, ⟨?_, ?_, ?_, ?_, ?_, ?_⟩, fun k hk s hs => ?_, fun c hc => ⟨?_, fun x y hx => ?_⟩, fun x y hx => ?_, h7, fun x y hx => ?_⟩
  · rw [ns 1 (by decide)]; exact a1
  · rw [ns 2 (by decide)]; exact a2
  · rw [ns 30 (by decide)]; exact a3
  · rw [ns 3 (by decide)]; exact b1
  · rw [ns 12 (by decide)]; exact b2
  · rw [ns 21 (by decide)]; exact b3
  · rw [pI_I, if_pos ⟨rfl, rfl⟩, wts_uw, List.length_take, Nat.min_eq_left hj]
  · rw [ns 27 (by decide)]; exact b5
  · rw [ns 29 (by decide)]; exact b6
  · rw [no k (isInt_kd hk).1]; exact h4 k hk s hs
  · rw [no 10 (by decide)]; exact (h5 c hc).1
  · rw [no 11 (by decide)]; exact (h5 c hc).2 x y hx
  · rw [wts_uw] at hx
    have hlt := (List.getElem?_eq_some_iff.mp hx).1
    rw [List.getElem?_take_of_lt (by rw [List.length_take] at hlt; omega)] at hx
    exact h6 x y hx
  · rw [no 31 (by decide)]; exact h8 x y hx
theorem drop_set0 {α : Type} {l : List α} {n : Nat} (h : n < l.length) (x : α) : (l.drop n).set 0 x = x :: l.drop (n + 1) := by
  rw [List.drop_eq_getElem_cons h]; rfl
def dueF (T : Int32) (e : Ed) : Bool := decide (e.1 = T)
def kepF (T : Int32) (e : Ed) : Bool := decide (¬ e.1 = T)
section MO
variable {e0 mi m : Nat} {A : Nat → Nat}
theorem M_read_l {S : St} {Q : Wd → Prop} {w0 : Wd} (hW : ∀ e ∈ wts S, e.2.1 = 0 ∧ e.2.2.1 ≤ 60 ∧ e.2.2.2 < 8) (hl : (eds S).length + (wts S).length < 3000) (hQ : ∀ w', RM (readS S) w' m A → FM m A w0 w' → Q w') : ∀ (n k : Nat) (w : Wd), k + n = (wts S).length →
    RM (uw (ue S (eds S ++ ((wts S).take k).filter (dueF (mm S 1 0)))) (((wts S).take k).filter (kepF (mm S 1 0)) ++ (wts S).drop (((wts S).take k).filter (kepF (mm S 1 0))).length) (wX S)) w m A → FM m A w0 w → wb_Mo_readDue_4 e0 mi Q (n + 1) m (nI (((wts S).take k).filter (kepF (mm S 1 0))).length) (nI k) w := by
  intro n
  induction n with
  | zero =>
    intro k w hk R F
    have hkk : k = (wts S).length := by omega
    subst hkk
    rw [List.take_length] at R ⊢
    have hkl : ((wts S).filter (kepF (mm S 1 0))).length ≤ (wts S).length := List.length_filter_le _ _
    have l25 : wI w m 25 = nI (wts S).length := by
      have := R.2.2.1.2.2.2.1
      rw [this, wts_uw, List.length_append, List.length_drop]
      congr 1
      omega
    unfold wb_Mo_readDue_4
    rw [l25]
    refine ⟨R.1.1, fun _ => ?_, fun z => absurd (nI_le (Nat.le_refl _) (by omega)) z⟩
    have R2 := RM_wcut R ((wts S).filter (kepF (mm S 1 0))).length (wX S) (by rw [wts_uw, List.length_append]; omega)
    rw [wts_uw, List.take_left] at R2
    exact hQ _ R2 (F.sc (by decide) _)
  | succ n ih =>
    intro k w hk R F
    have hkl0 : k < (wts S).length := by omega
    obtain ⟨e, he⟩ : ∃ e, (wts S)[k]? = some e := ⟨(wts S)[k], List.getElem?_eq_getElem hkl0⟩
    have hem := hW e (List.mem_of_getElem? he)
    have htk : (wts S).take (k + 1) = (wts S).take k ++ [e] := by rw [List.take_add_one, he]; rfl
    have hkl : (((wts S).take k).filter (kepF (mm S 1 0))).length ≤ k := by
      refine Nat.le_trans (List.length_filter_le _ _) ?_
      rw [List.length_take]; omega
    have l25 : wI w m 25 = nI (wts S).length := by
      have := R.2.2.1.2.2.2.1
      rw [this, wts_uw, List.length_append, List.length_drop]
      congr 1
      omega
    have v1 : wI w m 1 = mm S 1 0 := R.2.1.1
    have hLk : (((wts S).take k).filter (kepF (mm S 1 0)) ++ (wts S).drop (((wts S).take k).filter (kepF (mm S 1 0))).length)[k]? = some e := by
      rw [List.getElem?_append_right hkl, List.getElem?_drop]
      rw [show (((wts S).take k).filter (kepF (mm S 1 0))).length + (k - (((wts S).take k).filter (kepF (mm S 1 0))).length) = k by omega]
      exact he
    have vk : wJ w (A 26) k = pk e := R.2.2.2.2.2.1 k e hLk
    obtain ⟨t, kd, i, s⟩ := e
    obtain ⟨hkd, hi60, hs8⟩ := hem
    replace hkd : kd = 0 := hkd
    subst hkd
    unfold wb_Mo_readDue_4
    rw [l25]
    refine ⟨R.1.1, fun z => absurd z (nI_ge hkl0 (by omega)), fun _ => ldA R.1 26 (n := 3000) rfl (by decide) rfl rfl (by omega) ?_⟩
    rw [nI_clamp (n := k) (by omega), vk, pk_time t (by decide) hi60 hs8, v1]
    refine ⟨fun z => ⟨vA R.1 26 (n := 3000) (by decide) rfl rfl (by omega), vA R.1 26 (n := 3000) (by decide) rfl rfl (by omega), fun i9 e9 => ?_⟩, fun z => ⟨vA R.1 26 (n := 3000) (by decide) rfl rfl (by omega), vA R.1 26 (n := 3000) (by decide) rfl rfl (by omega), ?_⟩⟩
    · rw [nI_1] at e9
      subst e9
      rw [nI_clamp (by omega)]
      unfold wb_Mo_readDue_77
      intro i1 e1
      rw [e1, nI_1]
      have R2 := RM_wset R (((wts S).take k).filter (kepF (mm S 1 0))).length (t, 0, i, s) (wX S)
      have hkp : kepF (mm S 1 0) (t, 0, i, s) = true := by unfold kepF; exact decide_eq_true z
      have hdp : dueF (mm S 1 0) (t, 0, i, s) = false := by unfold dueF; exact decide_eq_false z
      have hf : ((wts S).take (k + 1)).filter (kepF (mm S 1 0)) = ((wts S).take k).filter (kepF (mm S 1 0)) ++ [(t, 0, i, s)] := by
        rw [htk, List.filter_append]; congr 1; simp [hkp]
      have hg : ((wts S).take (k + 1)).filter (dueF (mm S 1 0)) = ((wts S).take k).filter (dueF (mm S 1 0)) := by
        rw [htk, List.filter_append]; simp [hdp]
      have := ih (k + 1) (sJ w (A 26) (((wts S).take k).filter (kepF (mm S 1 0))).length (pk (t, 0, i, s))) (by omega) ?_ (F.arJ (by decide) _ _)
      · rw [hf] at this
        simpa using this
      · rw [hf, hg]
        rw [wts_uw] at R2
        have hset : (((wts S).take k).filter (kepF (mm S 1 0)) ++ (wts S).drop (((wts S).take k).filter (kepF (mm S 1 0))).length).set (((wts S).take k).filter (kepF (mm S 1 0))).length (t, 0, i, s) = (((wts S).take k).filter (kepF (mm S 1 0)) ++ [(t, 0, i, s)]) ++ (wts S).drop (((wts S).take k).filter (kepF (mm S 1 0)) ++ [(t, 0, i, s)]).length := by
          rw [List.set_append_right _ _ (Nat.le_refl _), Nat.sub_self, List.append_assoc]
          congr 1
          rw [drop_set0 (show (((wts S).take k).filter (kepF (mm S 1 0))).length < (wts S).length by omega), List.length_append]
          rfl
        rw [hset] at R2
        exact R2
    · rw [pk_item8 t (by decide) hi60 hs8, pk_where t (by decide) hi60 hs8]
      show wp_Mo_tell e0 mi m (nI 0) (nI i) (nI s) w _
      refine M_tell R ?_ (fun w13 R13 F13 => ?_)
      · rw [eds_uw, eds_ue, List.length_append]
        have := List.length_filter_le (dueF (mm S 1 0)) ((wts S).take k)
        rw [List.length_take] at this
        omega
      · unfold wb_Mo_readDue_77
        intro i1 e1
        rw [e1, nI_1]
        have hkp : kepF (mm S 1 0) (t, 0, i, s) = false := by unfold kepF; exact decide_eq_false (fun q => q z)
        have hdp : dueF (mm S 1 0) (t, 0, i, s) = true := by unfold dueF; exact decide_eq_true z
        have hf : ((wts S).take (k + 1)).filter (kepF (mm S 1 0)) = ((wts S).take k).filter (kepF (mm S 1 0)) := by
          rw [htk, List.filter_append]; simp [hkp]
        have hg : ((wts S).take (k + 1)).filter (dueF (mm S 1 0)) = ((wts S).take k).filter (dueF (mm S 1 0)) ++ [(t, 0, i, s)] := by
          rw [htk, List.filter_append]; congr 1; simp [hdp]
        have := ih (k + 1) w13 (by omega) ?_ (F.trans F13)
        · rw [hf] at this; exact this
        · rw [hf, hg, ← List.append_assoc]
          have ez : t = mm S 1 0 := z
          subst ez
          exact R13
theorem M_read {S : St} {Q : Wd → Prop} {w : Wd} (h : RM S w m A) (hW : ∀ e ∈ wts S, e.2.1 = 0 ∧ e.2.2.1 ≤ 60 ∧ e.2.2.2 < 8) (hl : (eds S).length + (wts S).length < 3000) (hQ : ∀ w', RM (readS S) w' m A → FM m A w w' → Q w') : wp_Mo_readDue e0 mi m w Q := by
  unfold wp_Mo_readDue
  refine ⟨(wts S).length + 1, ?_⟩
  have := M_read_l (e0 := e0) (mi := mi) (Q := Q) (w0 := w) hW hl hQ (wts S).length 0 w (by omega) ?_ FM.rfl
  · exact this
  · rw [List.take_zero, List.filter_nil, List.filter_nil, List.append_nil, List.nil_append, List.length_nil, List.drop_zero]
    exact h
end MO
end
section
/-! WHAT HOLDS OF EVERY STATE IS KEPT: by a second's parts -/
def okSlot (k : Nat) : Prop := k ≠ 13 ∧ k ≠ 14 ∧ k ≠ 17 ∧ k ≠ 7 ∧ k ≠ 22
theorem ok_um {S : St} (h : okS S) {k : Nat} (hk : okSlot k) (i : Nat) (v : Int32) : okS (um S k i v) := by
  obtain ⟨k13, k14, k17, k7, k22⟩ := hk
  have e13 := mm_um_ne S i v (Ne.symm k13)
  have e14 := mm_um_ne S i v (Ne.symm k14)
  have e17 := mm_um_ne S i v (Ne.symm k17)
  have e7 := mm_um_ne S i v (Ne.symm k7)
  have e22 := mm_um_ne S i v (Ne.symm k22)
  obtain ⟨h1, h2, h3, h4, h5, h6, h7, h8, h9, h10⟩ := h
  refine ⟨h1, h2, fun b j hj => ?_, h4, fun j hj1 hj2 => ?_, fun b hb y hy => ?_, ⟨h7.1, fun j hj => ?_⟩, fun s hs => ?_, h9, h10⟩
  · rw [e13, e14, e17]; exact h3 b j hj
  · rw [e13, e14]; exact h5 j hj1 hj2
  · rw [e7]; exact h6 b hb y hy
  · rw [e13]; exact h7.2 j hj
  · rw [e22]; exact h8 s hs
theorem ok_tick {S : St} (h : okS S) : okS (tickS S) := ok_um h (by unfold okSlot; decide) _ _
theorem ok_read {S : St} (h : okS S) : okS (readS S) := by
  obtain ⟨h1, h2, h3, h4, h5, h6, h7, h8, h9, h10⟩ := h
  refine ⟨h1, h2, h3, h4, h5, h6, h7, h8, fun e he => ?_, fun e he => ?_⟩
  · exact h9 e (List.mem_filter.mp he).1
  · rcases List.mem_append.mp he with z | z
    · exact h10 e z
    · have := h9 e (List.mem_filter.mp z).1
      exact ⟨by rw [this.1]; decide, this.2⟩
theorem ok_tell {S : St} (h : okS S) {e : Ed} (he : e.2.1 < 3 ∧ e.2.2.1 ≤ 60 ∧ e.2.2.2 < 8) : okS (tellS S e) := by
  obtain ⟨h1, h2, h3, h4, h5, h6, h7, h8, h9, h10⟩ := h
  refine ⟨h1, h2, h3, h4, h5, h6, h7, h8, h9, fun x hx => ?_⟩
  rcases List.mem_append.mp hx with z | z
  · exact h10 x z
  · rw [List.mem_singleton.mp z]; exact he
theorem ok_wait {S : St} (h : okS S) {l : List Ed} (hl : ∀ e ∈ l, e.2.1 = 0 ∧ e.2.2.1 ≤ 60 ∧ e.2.2.2 < 8) : okS (waitS S l) := by
  obtain ⟨h1, h2, h3, h4, h5, h6, h7, h8, h9, h10⟩ := h
  refine ⟨h1, h2, h3, h4, h5, h6, h7, h8, fun x hx => ?_, h10⟩
  rcases List.mem_append.mp hx with z | z
  · exact h9 x z
  · exact hl x z
/-- an item in a row is in no other -/
theorem ok_row {S : St} (h : okS S) {b c i : Nat} (hb : i ∈ rr S b) (hc : i ∈ rr S c) : b = c := by
  have b8 : b < 8 := by
    rcases Nat.lt_or_ge b (nB S) with z | z
    · have := h.1.1; omega
    · rw [h.2.1 b z] at hb; cases hb
  have c8 : c < 8 := by
    rcases Nat.lt_or_ge c (nB S) with z | z
    · have := h.1.1; omega
    · rw [h.2.1 c z] at hc; cases hc
  have e1 := (h.2.2.1 b i hb).2.2.2.1
  have e2 := (h.2.2.1 c i hc).2.2.2.1
  rw [e1] at e2
  exact (nI_eq (by omega) (by omega)).mp e2
theorem erase_mem {l : List Nat} {p i j : Nat} (hn : l.Nodup) (hp : l[p]? = some i) : j ∈ l.eraseIdx p ↔ j ∈ l ∧ j ≠ i := by
  have hlt := (List.getElem?_eq_some_iff.mp hp)
  constructor
  · intro hj
    refine ⟨List.mem_of_mem_eraseIdx hj, fun z => ?_⟩
    subst z
    obtain ⟨q, hq⟩ := List.mem_iff_getElem?.mp hj
    rw [List.getElem?_eraseIdx] at hq
    by_cases hqp : q < p
    · rw [if_pos hqp] at hq
      exact nodup_first hn hp q hqp hq
    · rw [if_neg hqp] at hq
      exact nodup_first hn hq p (by omega) hp
  · intro ⟨hj, hne⟩
    obtain ⟨q, hq⟩ := List.mem_iff_getElem?.mp hj
    rcases Nat.lt_trichotomy q p with z | z | z
    · exact List.mem_iff_getElem?.mpr ⟨q, by rw [List.getElem?_eraseIdx, if_pos z]; exact hq⟩
    · subst z
      rw [hp] at hq
      cases hq
      exact absurd rfl hne
    · refine List.mem_iff_getElem?.mpr ⟨q - 1, ?_⟩
      rw [List.getElem?_eraseIdx, if_neg (by omega), show q - 1 + 1 = q by omega]
      exact hq
/-- an item leaves its row, with another state than 0 -/
theorem ok_leave {S : St} (h : okS S) {b p i : Nat} {v : Int32} (hp : (rr S b)[p]? = some i) (hv : ¬ v = 0) : okS (um (ur S b ((rr S b).eraseIdx p)) 13 i v) := by
  have hm : i ∈ rr S b := List.mem_of_getElem? hp
  have hrow := fun c (hc : i ∈ rr S c) => ok_row h hc hm
  obtain ⟨h1, h2, h3, h4, h5, h6, h7, h8, h9, h10⟩ := h
  have e14 := mm_um_ne (ur S b ((rr S b).eraseIdx p)) i v (show (14 : Nat) ≠ 13 by decide)
  have e17 := mm_um_ne (ur S b ((rr S b).eraseIdx p)) i v (show (17 : Nat) ≠ 13 by decide)
  have e7 := mm_um_ne (ur S b ((rr S b).eraseIdx p)) i v (show (7 : Nat) ≠ 13 by decide)
  have e22 := mm_um_ne (ur S b ((rr S b).eraseIdx p)) i v (show (22 : Nat) ≠ 13 by decide)
  have e13 : ∀ j, j ≠ i → mm (um (ur S b ((rr S b).eraseIdx p)) 13 i v) 13 j = mm S 13 j := fun j hj => by rw [mm_um, if_neg (fun z => hj z.2), mm_ur]
  have erow : ∀ c j, j ∈ rr (um (ur S b ((rr S b).eraseIdx p)) 13 i v) c → j ∈ rr S c ∧ j ≠ i := fun c j hj => by
    rw [rr_um, rr_ur] at hj
    by_cases hc : c = b
    · rw [if_pos hc] at hj
      rw [hc]
      exact (erase_mem (h4 b) hp).mp hj
    · rw [if_neg hc] at hj
      exact ⟨hj, fun z => hc (hrow c (z ▸ hj))⟩
  have erow2 : ∀ c j, j ∈ rr S c → j ≠ i → j ∈ rr (um (ur S b ((rr S b).eraseIdx p)) 13 i v) c := fun c j hj hne => by
    rw [rr_um, rr_ur]
    by_cases hc : c = b
    · rw [if_pos hc]
      rw [hc] at hj
      exact (erase_mem (h4 b) hp).mpr ⟨hj, hne⟩
    · rw [if_neg hc]; exact hj
  refine ⟨h1, fun c hc => ?_, fun c j hj => ?_, fun c => ?_, fun j hj1 hj2 => ?_, fun c hc y hy => ?_, ⟨h7.1, fun j hj => ?_⟩, fun s hs => ?_, h9, h10⟩
  · rw [rr_um, rr_ur]
    by_cases hcb : c = b
    · rw [hcb] at hc
      have := h2 b hc
      rw [this] at hm
      cases hm
    · rw [if_neg hcb]; exact h2 c hc
  · obtain ⟨q1, q2⟩ := erow c j hj
    rw [e13 j q2, e14, e17, mm_ur]
    exact h3 c j q1
  · rw [rr_um, rr_ur]
    by_cases hcb : c = b
    · rw [if_pos hcb]; exact (h4 b).eraseIdx p
    · rw [if_neg hcb]; exact h4 c
  · obtain ⟨c, c1, c2, c3⟩ := h5 j hj1 hj2
    refine ⟨c, c1, by rw [e14, mm_ur]; exact c2, fun hz => ?_⟩
    by_cases hji : j = i
    · rw [hji, mm_um, if_pos ⟨rfl, rfl⟩] at hz
      exact absurd hz hv
    · rw [e13 j hji] at hz
      exact erow2 c j (c3 hz) hji
  · rw [e7, mm_ur]; exact h6 c hc y hy
  · have hji : j ≠ i := fun z => by
      have q1 := (h7.2 j hj).2.2
      rw [z, (h3 b i hm).2.2.1] at q1
      exact absurd q1 (by decide)
    rw [e13 j hji]; exact h7.2 j hj
  · rw [e22, mm_ur]; exact h8 s hs
theorem ok_gone {S : St} (h : okS S) {i : Nat} (h1 : 1 ≤ i) (h2 : i ≤ nT S) (hi : mm S 13 i = 1) (hn : i ∉ gos S) : okS (ug S (gos S ++ [i])) := by
  obtain ⟨g1, g2, g3, g4, g5, g6, g7, g8, g9, g10⟩ := h
  refine ⟨g1, g2, g3, g4, g5, g6, ⟨?_, fun j hj => ?_⟩, g8, g9, g10⟩
  · rw [gos_ug]
    exact List.nodup_append.mpr ⟨g7.1, List.nodup_cons.mpr ⟨by simp, List.nodup_nil⟩, fun a ha b hb => by
      rw [List.mem_singleton.mp hb]
      exact fun z => hn (z ▸ ha)⟩
  · rw [gos_ug] at hj
    rcases List.mem_append.mp hj with z | z
    · exact g7.2 j z
    · rw [List.mem_singleton.mp z]; exact ⟨h1, h2, hi⟩
theorem ok_out {S : St} (h : okS S) {b : Nat} (hb : b < nB S) : okS (outS S b) := by
  unfold outS
  cases ha : atEndS S b with
  | none => exact h
  | some i =>
    obtain ⟨t, ht, -⟩ := atEnd_some ha
    have hm : i ∈ rr S b := by rw [ht]; exact List.mem_cons_self
    have hi := h.2.2.1 b i hm
    cases hg : goesS S b i with
    | some k => simp only [hg]; exact h
    | none =>
      simp only [hg]
      have hp : (rr S b)[0]? = some i := by rw [ht]; rfl
      have q1 := ok_leave h hp (v := 1) (by decide)
      have hng : i ∉ gos S := fun z => by
        have := (h.2.2.2.2.2.2.1.2 i z).2.2
        rw [hi.2.2.1] at this
        exact absurd this (by decide)
      have q2 := ok_gone (i := i) q1 hi.1 hi.2.1 (by rw [mm_um, if_pos ⟨rfl, rfl⟩]) hng
      have q3 := ok_um q2 (k := 30) (by unfold okSlot; decide) 0 (mm S 30 0 + (mm S 1 0 - mm S 20 i))
      exact ok_tell (e := (mm S 1 0, 1, i, b)) q3 ⟨(show 1 < 3 by decide), by have := hi.2.1; have := h.1.2.1; show i ≤ 60; omega, by have := h.1.1; show b < 8; omega⟩
end
section
/-! WHAT HOLDS OF EVERY STATE IS KEPT: an item is passed on; items move -/
theorem mm14_come (S : St) (j b a : Nat) : mm (comeS S j b) 14 a = if a = j then nI b else mm S 14 a := by
  unfold comeS
  rw [mm_ur, mm_um_ne _ _ _ (by decide), mm_um_ne _ _ _ (by decide), mm_um_ne _ _ _ (by decide), mm_um_ne _ _ _ (by decide), mm_um]
  by_cases h : a = j
  · rw [if_pos ⟨rfl, h⟩, if_pos h]
  · rw [if_neg (fun z => h z.2), if_neg h]
theorem mm17_come (S : St) (j b a : Nat) : mm (comeS S j b) 17 a = if a = j then 0 else mm S 17 a := by
  unfold comeS
  rw [mm_ur, mm_um_ne _ _ _ (by decide), mm_um_ne _ _ _ (by decide), mm_um]
  by_cases h : a = j
  · rw [if_pos ⟨rfl, h⟩, if_pos h]
  · rw [if_neg (fun z => h z.2), if_neg h, mm_um_ne _ _ _ (by decide), mm_um_ne _ _ _ (by decide)]
theorem rr_come (S : St) (j b c : Nat) : rr (comeS S j b) c = if c = b then rr S b ++ [j] else rr S c := by
  unfold comeS
  rw [rr_ur, rr_um, rr_um, rr_um, rr_um, rr_um]
theorem ok_move {S : St} (h : okS S) {b x j k : Nat} {t : List Nat} {v : Int32} (ht : rr S x = j :: t) (hb : b < nB S) (hxb : b ≠ x) : okS (comeS (um (ur S x t) 9 k v) j b) := by
  have hm : j ∈ rr S x := by rw [ht]; exact List.mem_cons_self
  have hrow := fun c (hc : j ∈ rr S c) => ok_row h hc hm
  have hx : x < nB S := by
    rcases Nat.lt_or_ge x (nB S) with z | z
    · exact z
    · rw [h.2.1 x z] at hm; cases hm
  obtain ⟨h1, h2, h3, h4, h5, h6, h7, h8, h9, h10⟩ := h
  have hjj := h3 x j hm
  have hnd := h4 x
  rw [ht] at hnd
  obtain ⟨hjt, htn⟩ := List.nodup_cons.mp hnd
  have e13 : mm (comeS (um (ur S x t) 9 k v) j b) 13 = mm S 13 := by rw [mm_come _ _ _ (by decide), mm_um_ne _ _ _ (by decide), mm_ur]
  have e7 : mm (comeS (um (ur S x t) 9 k v) j b) 7 = mm S 7 := by rw [mm_come _ _ _ (by decide), mm_um_ne _ _ _ (by decide), mm_ur]
  have e22 : mm (comeS (um (ur S x t) 9 k v) j b) 22 = mm S 22 := by rw [mm_come _ _ _ (by decide), mm_um_ne _ _ _ (by decide), mm_ur]
  have e14 : ∀ a, mm (comeS (um (ur S x t) 9 k v) j b) 14 a = if a = j then nI b else mm S 14 a := fun a => by rw [mm14_come, mm_um_ne _ _ _ (by decide), mm_ur]
  have e17 : ∀ a, mm (comeS (um (ur S x t) 9 k v) j b) 17 a = if a = j then 0 else mm S 17 a := fun a => by rw [mm17_come, mm_um_ne _ _ _ (by decide), mm_ur]
  have er : ∀ c, rr (comeS (um (ur S x t) 9 k v) j b) c = if c = b then rr S b ++ [j] else if c = x then t else rr S c := fun c => by
    rw [rr_come, rr_um, rr_ur, rr_ur, if_neg hxb]
  have hjb : j ∉ rr S b := fun z => hxb (hrow b z)
  refine ⟨h1, fun c hc => ?_, fun c a ha => ?_, fun c => ?_, fun a ha1 ha2 => ?_, fun c hc y hy => ?_, ⟨h7.1, fun a ha => ?_⟩, fun s hs => ?_, h9, h10⟩
  · replace hc : nB S ≤ c := hc
    rw [er, if_neg (show c ≠ b by omega), if_neg (show c ≠ x by omega)]
    exact h2 c hc
  · rw [er] at ha
    rw [e13, e14, e17]
    by_cases haj : a = j
    · rw [if_pos haj, if_pos haj]
      by_cases hcb : c = b
      · rw [haj, hcb]; exact ⟨hjj.1, hjj.2.1, hjj.2.2.1, rfl, Or.inl rfl⟩
      · rw [if_neg hcb] at ha
        by_cases hcx : c = x
        · rw [if_pos hcx, haj] at ha; exact absurd ha hjt
        · rw [if_neg hcx, haj] at ha; exact absurd (hrow c ha) hcx
    · rw [if_neg haj, if_neg haj]
      by_cases hcb : c = b
      · rw [if_pos hcb] at ha
        rcases List.mem_append.mp ha with z | z
        · rw [hcb]; exact h3 b a z
        · exact absurd (List.mem_singleton.mp z) haj
      · rw [if_neg hcb] at ha
        by_cases hcx : c = x
        · rw [if_pos hcx] at ha
          rw [hcx]; exact h3 x a (by rw [ht]; exact List.mem_cons_of_mem _ ha)
        · rw [if_neg hcx] at ha; exact h3 c a ha
  · rw [er]
    by_cases hcb : c = b
    · rw [if_pos hcb]
      exact List.nodup_append.mpr ⟨h4 b, List.nodup_cons.mpr ⟨by simp, List.nodup_nil⟩, fun a ha a2 ha2 => by
        rw [List.mem_singleton.mp ha2]
        exact fun z => hjb (z ▸ ha)⟩
    · rw [if_neg hcb]
      by_cases hcx : c = x
      · rw [if_pos hcx]; exact htn
      · rw [if_neg hcx]; exact h4 c
  · by_cases haj : a = j
    · refine ⟨b, hb, by rw [e14, if_pos haj], fun _ => ?_⟩
      rw [er, if_pos rfl, haj]; simp
    · obtain ⟨c, c1, c2, c3⟩ := h5 a ha1 ha2
      refine ⟨c, c1, by rw [e14, if_neg haj]; exact c2, fun hz => ?_⟩
      rw [e13] at hz
      have := c3 hz
      rw [er]
      by_cases hcb : c = b
      · rw [if_pos hcb]; rw [hcb] at this; exact List.mem_append_left _ this
      · rw [if_neg hcb]
        by_cases hcx : c = x
        · rw [if_pos hcx]
          rw [hcx, ht] at this
          rcases List.mem_cons.mp this with z | z
          · exact absurd z haj
          · exact z
        · rw [if_neg hcx]; exact this
  · rw [e7]; exact h6 c hc y hy
  · rw [e13]; exact h7.2 a ha
  · rw [e22]; exact h8 s hs
theorem ok_pass {S : St} (h : okS S) {b : Nat} (hb : b < nB S) : okS (passS S b) := by
  unfold passS
  by_cases hz : 0 < missS S b
  · rw [if_pos hz]; exact h
  · rw [if_neg hz]
    cases hg : giverS S b b with
    | none => exact h
    | some k =>
      obtain ⟨x, hx, hk⟩ := giver_some b k hg
      obtain ⟨j, t, ht, -, -, ⟨y, hy, hky⟩, -, -⟩ := cand_some h hk
      have hk2 : k / 2 = x := by omega
      simp only [hk2, ht]
      have hj := h.2.2.1 x j (by rw [ht]; exact List.mem_cons_self)
      exact ok_tell (e := (mm S 1 0, 2, j, b)) (ok_move h ht hb (by omega)) ⟨(show 2 < 3 by decide), by have := hj.2.1; have := h.1.2.1; show j ≤ 60; omega, by have := h.1.1; show b < 8; omega⟩
theorem nB_out (S : St) (b : Nat) : nB (outS S b) = nB S := by
  unfold outS
  cases ha : atEndS S b with
  | none => rfl
  | some i => cases hg : goesS S b i with
    | none => simp only [hg] <;> rfl
    | some k => simp only [hg] <;> rfl
theorem nB_pass (S : St) (b : Nat) : nB (passS S b) = nB S := by
  unfold passS
  by_cases hz : 0 < missS S b
  · rw [if_pos hz]
  · rw [if_neg hz]
    cases hg : giverS S b b with
    | none => rfl
    | some k => cases hr : rr S (k / 2) with
      | nil => simp only [hr] <;> rfl
      | cons j t => simp only [hr] <;> rfl
theorem ok_exch {S : St} (h : okS S) {b : Nat} (hb : b < nB S) : okS (exchS S b) := ok_pass (ok_out h hb) (by rw [nB_out]; exact hb)
theorem nB_exch (S : St) (b : Nat) : nB (exchS S b) = nB S := by unfold exchS; rw [nB_pass, nB_out]
theorem rds_ok {S : St} {b i : Nat} {o n : Int32} (hi : i ≤ 60) : ∀ (s : Nat), s ≤ 4 → ∀ e ∈ rdsS S b i o n s, e.2.1 = 0 ∧ e.2.2.1 ≤ 60 ∧ e.2.2.2 < 8
  | 0, _, e, he => by unfold rdsS at he; cases he
  | s + 1, hs, e, he => by
    unfold rdsS at he
    rcases List.mem_append.mp he with z | z
    · exact rds_ok hi s (by omega) e z
    · by_cases hc : mm S 22 s = nI b ∧ o < mm S 23 s ∧ mm S 23 s ≤ n
      · rw [if_pos hc] at z
        rw [List.mem_singleton.mp z]
        exact ⟨rfl, hi, by show s < 8; omega⟩
      · rw [if_neg hc] at z; cases z
theorem ok_mv1 {S : St} (h : okS S) {b i : Nat} {most : Int32} (hi : i ≤ 60) : okS (mv1S S b most i) :=
  ok_wait (ok_um (ok_um h (by unfold okSlot; decide) _ _) (by unfold okSlot; decide) _ _) (rds_ok hi (nS S) h.1.2.2)
theorem ok_mvL {b : Nat} : ∀ (l : List Nat) (S : St) (p : Option Nat), okS S → (∀ i ∈ l, i ≤ 60) → okS (mvLS S b p l)
  | [], S, p, h, _ => by unfold mvLS; exact h
  | i :: t, S, p, h, hl => by
    unfold mvLS
    exact ok_mvL t _ _ (ok_mv1 h (hl i List.mem_cons_self)) (fun j hj => hl j (List.mem_cons_of_mem _ hj))
theorem ok_moveS {S : St} (h : okS S) (b : Nat) : okS (moveS S b) := ok_mvL _ S none h (fun i hi => by have := (h.2.2.1 b i hi).2.1; have := h.1.2.1; omega)
theorem nB_mvL {b : Nat} : ∀ (l : List Nat) (S : St) (p : Option Nat), nB (mvLS S b p l) = nB S ∧ nS (mvLS S b p l) = nS S
  | [], S, p => by unfold mvLS; exact ⟨rfl, rfl⟩
  | i :: t, S, p => by
    unfold mvLS
    have := nB_mvL (b := b) t (mv1S S b (mostS S b p) i) (some i)
    exact ⟨this.1, this.2⟩
theorem ok_mvAll {S : St} (h : okS S) : ∀ n, okS (mvAllS S n)
  | 0 => by unfold mvAllS; exact h
  | n + 1 => by
    unfold mvAllS
    by_cases hz : mm (mvAllS S n) 6 n = 0
    · rw [if_pos hz]; exact ok_mvAll h n
    · rw [if_neg hz]; exact ok_moveS (ok_mvAll h n) n
theorem nB_mvAll (S : St) : ∀ n, nB (mvAllS S n) = nB S ∧ nS (mvAllS S n) = nS S
  | 0 => by unfold mvAllS; exact ⟨rfl, rfl⟩
  | n + 1 => by
    unfold mvAllS
    by_cases hz : mm (mvAllS S n) 6 n = 0
    · rw [if_pos hz]; exact nB_mvAll S n
    · rw [if_neg hz]
      have := nB_mvL (b := n) (rr (mvAllS S n) n) (mvAllS S n) none
      exact ⟨this.1.trans (nB_mvAll S n).1, this.2.trans (nB_mvAll S n).2⟩
theorem ok_exAll : ∀ (n : Nat) (S : St), okS S → n ≤ nB S → okS (exAllS S n) ∧ nB (exAllS S n) = nB S
  | 0, S, h, _ => by unfold exAllS; exact ⟨h, rfl⟩
  | n + 1, S, h, hn => by
    unfold exAllS
    by_cases hz : mm S 6 n = 0
    · rw [if_pos hz]; exact ok_exAll n S h (by omega)
    · rw [if_neg hz]
      have := ok_exAll n (exchS S n) (ok_exch h (by omega)) (by rw [nB_exch]; omega)
      exact ⟨this.1, this.2.trans (nB_exch S n)⟩
end
section
/-! THE REFERENCE: a second, and many -/
theorem eds_out (S : St) (b : Nat) : (eds S).length ≤ (eds (outS S b)).length ∧ (eds (outS S b)).length ≤ (eds S).length + 1 ∧ wts (outS S b) = wts S ∧ nS (outS S b) = nS S := by
  unfold outS
  cases ha : atEndS S b with
  | none => exact ⟨Nat.le_refl _, Nat.le_succ _, rfl, rfl⟩
  | some i => cases hg : goesS S b i with
    | some k => simp only [hg]; exact ⟨Nat.le_refl _, Nat.le_succ _, trivial, trivial⟩
    | none =>
      simp only [hg]
      refine ⟨?_, ?_, rfl, rfl⟩
      · unfold tellS; simp only [eds_ue, eds_um, eds_ug, eds_ur]; simp
      · unfold tellS; simp only [eds_ue, eds_um, eds_ug, eds_ur]; simp
theorem eds_pass (S : St) (b : Nat) : (eds S).length ≤ (eds (passS S b)).length ∧ wts (passS S b) = wts S ∧ nS (passS S b) = nS S := by
  unfold passS
  by_cases hz : 0 < missS S b
  · rw [if_pos hz]; exact ⟨Nat.le_refl _, rfl, rfl⟩
  · rw [if_neg hz]
    cases hg : giverS S b b with
    | none => exact ⟨Nat.le_refl _, rfl, rfl⟩
    | some k => cases hr : rr S (k / 2) with
      | nil => simp only [hr]; exact ⟨Nat.le_refl _, trivial, trivial⟩
      | cons j t =>
        simp only [hr]
        refine ⟨?_, rfl, rfl⟩
        unfold tellS; simp only [eds_ue, eds_come, eds_um, eds_ur]; simp
theorem eds_exch (S : St) (b : Nat) : (eds S).length ≤ (eds (exchS S b)).length ∧ wts (exchS S b) = wts S ∧ nS (exchS S b) = nS S := by
  unfold exchS
  have h1 := eds_out S b
  have h2 := eds_pass (outS S b) b
  exact ⟨Nat.le_trans h1.1 h2.1, h2.2.1.trans h1.2.2.1, h2.2.2.trans h1.2.2.2⟩
theorem eds_exAll : ∀ (n : Nat) (S : St), (eds S).length ≤ (eds (exAllS S n)).length ∧ wts (exAllS S n) = wts S ∧ nS (exAllS S n) = nS S
  | 0, S => by unfold exAllS; exact ⟨Nat.le_refl _, rfl, rfl⟩
  | n + 1, S => by
    unfold exAllS
    by_cases hz : mm S 6 n = 0
    · rw [if_pos hz]; exact eds_exAll n S
    · rw [if_neg hz]
      have h1 := eds_exch S n
      have h2 := eds_exAll n (exchS S n)
      exact ⟨Nat.le_trans h1.1 h2.1, h2.2.1.trans h1.2.1, h2.2.2.trans h1.2.2⟩
theorem wts_mvAll (S : St) : ∀ (d n : Nat), (wts (mvAllS S n)).length ≤ (wts (mvAllS S (n + d))).length
  | 0, n => Nat.le_refl _
  | d + 1, n => by
    refine Nat.le_trans (wts_mvAll S d n) ?_
    rw [← Nat.add_assoc]
    show (wts (mvAllS S (n + d))).length ≤ (wts (if mm (mvAllS S (n + d)) 6 (n + d) = 0 then mvAllS S (n + d) else moveS (mvAllS S (n + d)) (n + d))).length
    by_cases hz : mm (mvAllS S (n + d)) 6 (n + d) = 0
    · rw [if_pos hz]; exact Nat.le_refl _
    · rw [if_neg hz]; exact wts_mvL _ _ _ _
theorem mvAll_no {S : St} {n : Nat} (z : mm (mvAllS S n) 6 n = 0) : mvAllS S (n + 1) = mvAllS S n := by
  show (if mm (mvAllS S n) 6 n = 0 then mvAllS S n else moveS (mvAllS S n) n) = mvAllS S n
  rw [if_pos z]
theorem mvAll_go {S : St} {n : Nat} (z : ¬ mm (mvAllS S n) 6 n = 0) : mvAllS S (n + 1) = moveS (mvAllS S n) n := by
  show (if mm (mvAllS S n) 6 n = 0 then mvAllS S n else moveS (mvAllS S n) n) = moveS (mvAllS S n) n
  rw [if_neg z]
theorem exAll_no {S : St} {n : Nat} (z : mm S 6 n = 0) : exAllS S (n + 1) = exAllS S n := by
  show exAllS (if mm S 6 n = 0 then S else exchS S n) n = exAllS S n
  rw [if_pos z]
theorem exAll_go {S : St} {n : Nat} (z : ¬ mm S 6 n = 0) : exAllS S (n + 1) = exAllS (exchS S n) n := by
  show exAllS (if mm S 6 n = 0 then S else exchS S n) n = exAllS (exchS S n) n
  rw [if_neg z]
section MO
variable {e0 mi m : Nat} {A : Nat → Nat}
theorem M_mvAll {S : St} {K35 : Nat → Int32 → Int32 → Int32 → Wd → Prop} {Q : Int32 → Wd → Prop} {x1 x2 x3 : Int32} {w0 : Wd} (hS : okS S) (hwt : (wts (mvAllS S (nB S))).length < 3000)
    (hQ : ∀ w', RM (mvAllS S (nB S)) w' m A → FM m A w0 w' → ∀ i3 : Int32, i3 = x3 + 1 → K35 m x1 x2 i3 w') : ∀ (n k : Nat) (w : Wd), k + n = nB S → RM (mvAllS S k) w m A → FM m A w0 w → wb_Mo_step_92 e0 mi K35 Q (n + 1) m x1 x2 x3 (nI k) w := by
  have hb8 := hS.1.1
  intro n
  induction n with
  | zero =>
    intro k w hk R F
    have hkk : k = nB S := by omega
    unfold wb_Mo_step_92
    have l3 : wI w m 3 = nI (nB S) := by rw [R.2.2.1.1, (nB_mvAll S k).1]
    rw [l3]
    subst hkk
    exact ⟨R.1.1, fun _ => hQ w R F, fun z => absurd (nI_le (Nat.le_refl _) (by omega)) z⟩
  | succ n ih =>
    intro k w hk R F
    have hk8 : k < 8 := by omega
    unfold wb_Mo_step_92
    have l3 : wI w m 3 = nI (nB S) := by rw [R.2.2.1.1, (nB_mvAll S k).1]
    rw [l3]
    have next : ∀ u, RM (mvAllS S (k + 1)) u m A → FM m A w0 u → wb_Mo_step_117 e0 mi K35 (wb_Mo_step_92 e0 mi K35 Q (n + 1)) Q m x1 x2 x3 (nI k) u := fun u Ru Fu => by
      unfold wb_Mo_step_117
      intro i1 e1
      rw [e1, nI_1]
      exact ih (k + 1) u (by omega) Ru Fu
    refine ⟨R.1.1, fun z => absurd z (nI_ge (by omega) (by omega)), fun _ => ldA R.1 6 (n := 8) rfl (by decide) rfl rfl hk8 ?_⟩
    rw [nI_clamp (by omega), R.2.2.2.1 6 (by unfold isInt; decide) k hk8]
    have okk := ok_mvAll hS k
    refine ⟨fun z => next w ?_ F, fun z => ?_⟩
    · rw [mvAll_no z]; exact R
    · have e1 : mvAllS S (k + 1) = moveS (mvAllS S k) k := mvAll_go z
      have hw1 : (wts (moveS (mvAllS S k) k)).length < 3000 := by
        rw [← e1]
        have := wts_mvAll S (nB S - (k + 1)) (k + 1)
        rw [show k + 1 + (nB S - (k + 1)) = nB S by omega] at this
        omega
      refine M_move R hk8 (okS_R okk) (by have := okk.1.2.2; exact this) hw1 (fun w' R' F' => next w' ?_ (F.trans F'))
      rw [e1]; exact R'
theorem M_exAll {K35 : Nat → Int32 → Int32 → Int32 → Wd → Prop} {Q : Int32 → Wd → Prop} {x1 x2 x3 : Int32} {w0 : Wd} : ∀ (n : Nat) (S : St) (w : Wd), okS S → n ≤ nB S → (eds (exAllS S n)).length < 5990 → (wts (mvAllS (exAllS S n) (nB S))).length < 3000 →
    (∀ w', RM (mvAllS (exAllS S n) (nB S)) w' m A → FM m A w0 w' → ∀ i3 : Int32, i3 = x3 + 1 → K35 m x1 x2 i3 w') → RM S w m A → FM m A w0 w → wb_Mo_step_62 e0 mi K35 Q (n + 1) m x1 x2 x3 (nI n + (-1)) w := by
  intro n
  induction n with
  | zero =>
    intro S w hS hn he hwt hQ R F
    unfold wb_Mo_step_62
    have hb8 := hS.1.1
    refine ⟨fun _ => ⟨nB S + 1, ?_⟩, fun z => absurd (by decide) z⟩
    unfold exAllS at hwt hQ
    exact M_mvAll hS hwt hQ (nB S) 0 w (by omega) (by unfold mvAllS; exact R) F
  | succ n ih =>
    intro S w hS hn he hwt hQ R F
    have hb8 := hS.1.1
    have hn8 : n < 8 := by omega
    unfold wb_Mo_step_62
    rw [pk_m1]
    refine ⟨fun z => absurd z (nI_pos (by omega)), fun _ => ⟨R.1.1, ldA R.1 6 (n := 8) rfl (by decide) rfl rfl hn8 ?_⟩⟩
    rw [nI_clamp (by omega), R.2.2.2.1 6 (by unfold isInt; decide) n hn8]
    refine ⟨fun z => ?_, fun z => ?_⟩
    · have e1 : exAllS S (n + 1) = exAllS S n := exAll_no z
      rw [e1] at he hwt hQ
      unfold wb_Mo_step_83
      intro i1 ei1
      rw [ei1]
      exact ih S w hS (by omega) he hwt hQ R F
    · have e1 : exAllS S (n + 1) = exAllS (exchS S n) n := exAll_go z
      rw [e1] at he hwt hQ
      have hl := (eds_exAll n (exchS S n)).1
      have hl2 := (eds_exch S n).1
      refine M_exchange R hS (ok_out hS (by omega)) (by omega) (by omega) (fun w' R' F' => ?_)
      unfold wb_Mo_step_83
      intro i1 ei1
      rw [ei1]
      refine ih (exchS S n) w' (ok_exch hS (by omega)) (by rw [nB_exch]; omega) he ?_ ?_ R' (F.trans F')
      · rw [nB_exch]; exact hwt
      · rw [nB_exch]; exact hQ
theorem M_sec {S : St} {Q : Int32 → Wd → Prop} {x1 x2 x3 : Int32} {n : Nat} {w w0 : Wd} (hS : okS S) (R : RM S w m A) (F : FM m A w0 w) (h1 : (eds S).length + (wts S).length < 3000) (h2 : (eds (secS S)).length < 5990) (h3 : (wts (secS S)).length < 3000)
    (hQ : ∀ w', RM (secS S) w' m A → FM m A w0 w' → ∀ i3 : Int32, i3 = x3 + 1 → wb_Mo_step_35 e0 mi Q n m x1 x2 i3 w') (hlt : ¬ x1 ≤ x3) : wb_Mo_step_35 e0 mi Q (n + 1) m x1 x2 x3 w := by
  unfold wb_Mo_step_35
  refine ⟨fun z => absurd z hlt, fun _ => ⟨R.1.1, ?_⟩⟩
  rw [R.2.1.1]
  have R1 := RM_time R (mm S 1 0 + 1)
  have F1 := F.sc (s := 1) (by decide) (mm S 1 0 + 1)
  refine M_read (S := tickS S) R1 hS.2.2.2.2.2.2.2.2.1 h1 (fun w5 R5 F5 => ⟨R5.1.1, fun i12 e12 => ⟨nB S + 1, ?_⟩⟩)
  have l3 : wI w5 m 3 = nI (nB S) := R5.2.2.1.1
  rw [l3, Int32.sub_eq_add_neg] at e12
  rw [e12]
  have okr := ok_read (ok_tick hS)
  have hE : (eds (exAllS (readS (tickS S)) (nB S))).length < 5990 := by
    have q : ∀ (n : Nat) (T : St), eds (mvAllS T n) = eds T := fun n T => by
      induction n with
      | zero => rfl
      | succ n ih =>
        by_cases hz : mm (mvAllS T n) 6 n = 0
        · rw [mvAll_no hz]; exact ih
        · rw [mvAll_go hz]
          have q2 : ∀ (l : List Nat) (U : St) (p : Option Nat), eds (mvLS U n p l) = eds U := fun l => by
            induction l with
            | nil => intro U p; rfl
            | cons i t ih2 => intro U p; unfold mvLS; rw [ih2]; rfl
          unfold moveS
          rw [q2]; exact ih
    unfold secS at h2
    rw [q] at h2
    exact h2
  have := M_exAll (e0 := e0) (mi := mi) (K35 := wb_Mo_step_35 e0 mi Q n) (Q := Q) (x1 := x1) (x2 := x2) (x3 := x3) (w0 := w0) (nB S) (readS (tickS S)) w5 okr (Nat.le_refl _) hE h3 hQ R5 (F1.trans F5)
  exact this
end MO
end
