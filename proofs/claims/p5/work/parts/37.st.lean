/-! THE STATE BEHIND BOTH: numbers by the slots of the reference, the rows of items, edges, what waits, what went out, how many belts, items, scanners there are, how long the waiting ever were -/
abbrev Ed : Type := Int32 × Nat × Nat × Nat
abbrev St : Type := (Nat → Nat → Int32) × (Nat → List Nat) × List Ed × List Ed × List Nat × Nat × Nat × Nat × Nat
def mm (S : St) : Nat → Nat → Int32 := S.1
def rr (S : St) : Nat → List Nat := S.2.1
def eds (S : St) : List Ed := S.2.2.1
def wts (S : St) : List Ed := S.2.2.2.1
def gos (S : St) : List Nat := S.2.2.2.2.1
def nB (S : St) : Nat := S.2.2.2.2.2.1
def nT (S : St) : Nat := S.2.2.2.2.2.2.1
def nS (S : St) : Nat := S.2.2.2.2.2.2.2.1
def wX (S : St) : Nat := S.2.2.2.2.2.2.2.2
def um (S : St) (k i : Nat) (v : Int32) : St := (va_up (mm S) k (va_up (mm S k) i v), rr S, eds S, wts S, gos S, nB S, nT S, nS S, wX S)
def ur (S : St) (b : Nat) (l : List Nat) : St := (mm S, va_up (rr S) b l, eds S, wts S, gos S, nB S, nT S, nS S, wX S)
def ue (S : St) (l : List Ed) : St := (mm S, rr S, l, wts S, gos S, nB S, nT S, nS S, wX S)
def uw (S : St) (l : List Ed) (n : Nat) : St := (mm S, rr S, eds S, l, gos S, nB S, nT S, nS S, n)
def ug (S : St) (l : List Nat) : St := (mm S, rr S, eds S, wts S, l, nB S, nT S, nS S, wX S)
def uB (S : St) (n : Nat) : St := (mm S, rr S, eds S, wts S, gos S, n, nT S, nS S, wX S)
def uT (S : St) (n : Nat) : St := (mm S, rr S, eds S, wts S, gos S, nB S, n, nS S, wX S)
def uS (S : St) (n : Nat) : St := (mm S, rr S, eds S, wts S, gos S, nB S, nT S, n, wX S)
theorem mm_um (S : St) (k i : Nat) (v : Int32) (k' i' : Nat) : mm (um S k i v) k' i' = if k' = k ∧ i' = i then v else mm S k' i' := by
  show va_up (mm S) k (va_up (mm S k) i v) k' i' = _
  unfold va_up
  by_cases h : k' = k
  · subst h
    by_cases h2 : i' = i <;> simp [h2]
  · simp [h]
theorem rr_um (S : St) (k i : Nat) (v : Int32) : rr (um S k i v) = rr S := (rfl)
theorem eds_um (S : St) (k i : Nat) (v : Int32) : eds (um S k i v) = eds S := (rfl)
theorem wts_um (S : St) (k i : Nat) (v : Int32) : wts (um S k i v) = wts S := (rfl)
theorem gos_um (S : St) (k i : Nat) (v : Int32) : gos (um S k i v) = gos S := (rfl)
theorem nB_um (S : St) (k i : Nat) (v : Int32) : nB (um S k i v) = nB S := (rfl)
theorem nT_um (S : St) (k i : Nat) (v : Int32) : nT (um S k i v) = nT S := (rfl)
theorem nS_um (S : St) (k i : Nat) (v : Int32) : nS (um S k i v) = nS S := (rfl)
theorem wX_um (S : St) (k i : Nat) (v : Int32) : wX (um S k i v) = wX S := (rfl)
theorem mm_ur (S : St) (b : Nat) (l : List Nat) : mm (ur S b l) = mm S := (rfl)
theorem rr_ur (S : St) (b : Nat) (l : List Nat) (b' : Nat) : rr (ur S b l) b' = if b' = b then l else rr S b' := (rfl)
theorem eds_ur (S : St) (b : Nat) (l : List Nat) : eds (ur S b l) = eds S := (rfl)
theorem wts_ur (S : St) (b : Nat) (l : List Nat) : wts (ur S b l) = wts S := (rfl)
theorem gos_ur (S : St) (b : Nat) (l : List Nat) : gos (ur S b l) = gos S := (rfl)
theorem nB_ur (S : St) (b : Nat) (l : List Nat) : nB (ur S b l) = nB S := (rfl)
theorem nT_ur (S : St) (b : Nat) (l : List Nat) : nT (ur S b l) = nT S := (rfl)
theorem nS_ur (S : St) (b : Nat) (l : List Nat) : nS (ur S b l) = nS S := (rfl)
theorem wX_ur (S : St) (b : Nat) (l : List Nat) : wX (ur S b l) = wX S := (rfl)
theorem mm_ue (S : St) (l : List Ed) : mm (ue S l) = mm S := (rfl)
theorem rr_ue (S : St) (l : List Ed) : rr (ue S l) = rr S := (rfl)
theorem eds_ue (S : St) (l : List Ed) : eds (ue S l) = l := (rfl)
theorem wts_ue (S : St) (l : List Ed) : wts (ue S l) = wts S := (rfl)
theorem gos_ue (S : St) (l : List Ed) : gos (ue S l) = gos S := (rfl)
theorem nB_ue (S : St) (l : List Ed) : nB (ue S l) = nB S := (rfl)
theorem nT_ue (S : St) (l : List Ed) : nT (ue S l) = nT S := (rfl)
theorem nS_ue (S : St) (l : List Ed) : nS (ue S l) = nS S := (rfl)
theorem wX_ue (S : St) (l : List Ed) : wX (ue S l) = wX S := (rfl)
theorem mm_uw (S : St) (l : List Ed) (n : Nat) : mm (uw S l n) = mm S := (rfl)
theorem rr_uw (S : St) (l : List Ed) (n : Nat) : rr (uw S l n) = rr S := (rfl)
theorem eds_uw (S : St) (l : List Ed) (n : Nat) : eds (uw S l n) = eds S := (rfl)
theorem wts_uw (S : St) (l : List Ed) (n : Nat) : wts (uw S l n) = l := (rfl)
theorem gos_uw (S : St) (l : List Ed) (n : Nat) : gos (uw S l n) = gos S := (rfl)
theorem nB_uw (S : St) (l : List Ed) (n : Nat) : nB (uw S l n) = nB S := (rfl)
theorem nT_uw (S : St) (l : List Ed) (n : Nat) : nT (uw S l n) = nT S := (rfl)
theorem nS_uw (S : St) (l : List Ed) (n : Nat) : nS (uw S l n) = nS S := (rfl)
theorem wX_uw (S : St) (l : List Ed) (n : Nat) : wX (uw S l n) = n := (rfl)
theorem mm_ug (S : St) (l : List Nat) : mm (ug S l) = mm S := (rfl)
theorem rr_ug (S : St) (l : List Nat) : rr (ug S l) = rr S := (rfl)
theorem eds_ug (S : St) (l : List Nat) : eds (ug S l) = eds S := (rfl)
theorem wts_ug (S : St) (l : List Nat) : wts (ug S l) = wts S := (rfl)
theorem gos_ug (S : St) (l : List Nat) : gos (ug S l) = l := (rfl)
theorem nB_ug (S : St) (l : List Nat) : nB (ug S l) = nB S := (rfl)
theorem nT_ug (S : St) (l : List Nat) : nT (ug S l) = nT S := (rfl)
theorem nS_ug (S : St) (l : List Nat) : nS (ug S l) = nS S := (rfl)
theorem wX_ug (S : St) (l : List Nat) : wX (ug S l) = wX S := (rfl)
theorem mm_uB (S : St) (n : Nat) : mm (uB S n) = mm S := (rfl)
theorem rr_uB (S : St) (n : Nat) : rr (uB S n) = rr S := (rfl)
theorem eds_uB (S : St) (n : Nat) : eds (uB S n) = eds S := (rfl)
theorem wts_uB (S : St) (n : Nat) : wts (uB S n) = wts S := (rfl)
theorem gos_uB (S : St) (n : Nat) : gos (uB S n) = gos S := (rfl)
theorem nB_uB (S : St) (n : Nat) : nB (uB S n) = n := (rfl)
theorem nT_uB (S : St) (n : Nat) : nT (uB S n) = nT S := (rfl)
theorem nS_uB (S : St) (n : Nat) : nS (uB S n) = nS S := (rfl)
theorem wX_uB (S : St) (n : Nat) : wX (uB S n) = wX S := (rfl)
theorem mm_uT (S : St) (n : Nat) : mm (uT S n) = mm S := (rfl)
theorem rr_uT (S : St) (n : Nat) : rr (uT S n) = rr S := (rfl)
theorem eds_uT (S : St) (n : Nat) : eds (uT S n) = eds S := (rfl)
theorem wts_uT (S : St) (n : Nat) : wts (uT S n) = wts S := (rfl)
theorem gos_uT (S : St) (n : Nat) : gos (uT S n) = gos S := (rfl)
theorem nB_uT (S : St) (n : Nat) : nB (uT S n) = nB S := (rfl)
theorem nT_uT (S : St) (n : Nat) : nT (uT S n) = n := (rfl)
theorem nS_uT (S : St) (n : Nat) : nS (uT S n) = nS S := (rfl)
theorem wX_uT (S : St) (n : Nat) : wX (uT S n) = wX S := (rfl)
theorem mm_uS (S : St) (n : Nat) : mm (uS S n) = mm S := (rfl)
theorem rr_uS (S : St) (n : Nat) : rr (uS S n) = rr S := (rfl)
theorem eds_uS (S : St) (n : Nat) : eds (uS S n) = eds S := (rfl)
theorem wts_uS (S : St) (n : Nat) : wts (uS S n) = wts S := (rfl)
theorem gos_uS (S : St) (n : Nat) : gos (uS S n) = gos S := (rfl)
theorem nB_uS (S : St) (n : Nat) : nB (uS S n) = nB S := (rfl)
theorem nT_uS (S : St) (n : Nat) : nT (uS S n) = nT S := (rfl)
theorem nS_uS (S : St) (n : Nat) : nS (uS S n) = n := (rfl)
theorem wX_uS (S : St) (n : Nat) : wX (uS S n) = wX S := (rfl)
/-! WHAT EACH CALL DOES WITH IT -/
def comeS (S : St) (i b : Nat) : St := ur (um (um (um (um (um S 14 i (nI b)) 15 i 0) 17 i 0) 18 i 0) 19 i 0) b (rr S b ++ [i])
def tellS (S : St) (e : Ed) : St := ue S (eds S ++ [e])
def rearS (S : St) (i : Nat) : Int32 := mm S 15 i - mm S 16 i
def missS (S : St) (b : Nat) : Int32 := match (rr S b).getLast? with
  | none => 0
  | some i => mm S 2 0 - rearS S i
def atEndS (S : St) (b : Nat) : Option Nat := match rr S b with
  | [] => none
  | i :: _ => if mm S 15 i = mm S 4 b then some i else none
/-- the way (2 b or 2 b + 1) by which an item of the belt b goes -/
def goesS (S : St) (b i : Nat) : Option Nat := if mm S 7 (2 * b + (mm S 17 i).toNatClampNeg) = -1 then (if mm S 7 (2 * b) = -1 then none else some (2 * b)) else some (2 * b + (mm S 17 i).toNatClampNeg)
def outS (S : St) (b : Nat) : St := match atEndS S b with
  | none => S
  | some i => match goesS S b i with
    | some _ => S
    | none => tellS (um (ug (um (ur S b ((rr S b).eraseIdx 0)) 13 i 1) (gos S ++ [i])) 30 0 (mm S 30 0 + (mm S 1 0 - mm S 20 i))) (mm S 1 0, 1, i, b)
def candS (S : St) (b x : Nat) : Option Nat := if mm S 6 x = 0 then none else match atEndS S x with
  | none => none
  | some j => match goesS S x j with
    | none => none
    | some k => if mm S 7 k = nI b then some k else none
def dueS (S : St) (k : Nat) (best : Option Nat) : Prop := match best with
  | none => True
  | some j => mm S 9 k * mm S 8 j < mm S 9 j * mm S 8 k
noncomputable def bestS (S : St) (c best : Option Nat) : Option Nat := match c with
  | none => best
  | some k => match best with
    | none => some k
    | some j => if mm S 9 k * mm S 8 j < mm S 9 j * mm S 8 k then some k else some j
noncomputable def giverS (S : St) (b : Nat) : Nat → Option Nat
  | 0 => none
  | x + 1 => bestS S (candS S b x) (giverS S b x)
noncomputable def passS (S : St) (b : Nat) : St := if 0 < missS S b then S else match giverS S b b with
  | none => S
  | some k => match rr S (k / 2) with
    | [] => S
    | j :: t => tellS (comeS (um (ur S (k / 2) t) 9 k (mm S 9 k + 1)) j b) (mm S 1 0, 2, j, b)
noncomputable def exchS (S : St) (b : Nat) : St := passS (outS S b) b
noncomputable def exAllS (S : St) : Nat → St
  | 0 => S
  | n + 1 => exAllS (if mm S 6 n = 0 then S else exchS S n) n
def toS (S : St) (b : Nat) (most : Int32) (i : Nat) : Int32 :=
  let t0 := mm S 15 i + mm S 5 b
  let t1 := if mm S 4 b < t0 then mm S 4 b else t0
  let t2 := if most < t1 then most else t1
  if t2 < mm S 15 i then mm S 15 i else t2
def expS (S : St) (b i : Nat) : Int32 := if mm S 4 b < mm S 19 i + mm S 5 b then mm S 4 b else mm S 19 i + mm S 5 b
/-- the reads by the scanners below n -/
def rdsS (S : St) (b i : Nat) (old new : Int32) : Nat → List Ed
  | 0 => []
  | s + 1 => rdsS S b i old new s ++ (if mm S 22 s = nI b ∧ old < mm S 23 s ∧ mm S 23 s ≤ new then [(mm S 1 0 + mm S 24 s, 0, i, s)] else [])
def waitS (S : St) (l : List Ed) : St := uw S (wts S ++ l) (max (wX S) (wts S ++ l).length)
def mv1S (S : St) (b : Nat) (most : Int32) (i : Nat) : St := waitS (um (um S 19 i (expS S b i)) 15 i (toS S b most i)) (rdsS S b i (mm S 15 i) (toS S b most i) (nS S))
def mostS (S : St) (b : Nat) : Option Nat → Int32
  | none => mm S 4 b
  | some a => rearS S a - mm S 2 0
def mvLS (S : St) (b : Nat) : Option Nat → List Nat → St
  | _, [] => S
  | p, i :: t => mvLS (mv1S S b (mostS S b p) i) b (some i) t
def moveS (S : St) (b : Nat) : St := mvLS S b none (rr S b)
def mvAllS (S : St) : Nat → St
  | 0 => S
  | n + 1 => if mm (mvAllS S n) 6 n = 0 then mvAllS S n else moveS (mvAllS S n) n
def tickS (S : St) : St := um S 1 0 (mm S 1 0 + 1)
def readS (S : St) : St := uw (ue S (eds S ++ (wts S).filter (fun e => decide (e.1 = mm S 1 0)))) ((wts S).filter (fun e => decide (¬ e.1 = mm S 1 0))) (wX S)
noncomputable def secS (S : St) : St := mvAllS (exAllS (readS (tickS S)) (nB S)) (nB S)
noncomputable def stepsS (S : St) : Nat → St
  | 0 => S
  | n + 1 => secS (stepsS S n)
