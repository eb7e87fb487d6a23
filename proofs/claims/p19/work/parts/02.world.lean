/-! THE WORLD: all cells that the class, the reference and the law have made, as one finite map by addresses: L the addresses, K each one's kind (a class of 'classes' below 100; 100 Object[], 101 int[], 102 long[], 103 boolean[]), I, R, J its int, reference and long fields or places, N an array's length -/
abbrev Wd : Type := List Nat × (Nat → Nat) × (Nat → Nat → Int32) × (Nat → Nat → Option Nat) × (Nat → Nat → Int64) × (Nat → Nat)
def wL (w : Wd) : List Nat := w.1
def wK (w : Wd) : Nat → Nat := w.2.1
def wI (w : Wd) : Nat → Nat → Int32 := w.2.2.1
def wR (w : Wd) : Nat → Nat → Option Nat := w.2.2.2.1
def wJ (w : Wd) : Nat → Nat → Int64 := w.2.2.2.2.1
def wN (w : Wd) : Nat → Nat := w.2.2.2.2.2
def sI (w : Wd) (a k : Nat) (v : Int32) : Wd := (wL w, wK w, va_up (wI w) a (va_up (wI w a) k v), wR w, wJ w, wN w)
def sR (w : Wd) (a k : Nat) (v : Option Nat) : Wd := (wL w, wK w, wI w, va_up (wR w) a (va_up (wR w a) k v), wJ w, wN w)
def sJ (w : Wd) (a k : Nat) (v : Int64) : Wd := (wL w, wK w, wI w, wR w, va_up (wJ w) a (va_up (wJ w a) k v), wN w)
/-- a row of references is set whole (a copy of an array) -/
def sRow (w : Wd) (a : Nat) (f : Nat → Option Nat) : Wd := (wL w, wK w, wI w, va_up (wR w) a f, wJ w, wN w)
/-- a new cell q of kind kd with n places (0 for an object) -/
def bw_new (w : Wd) (q kd n : Nat) : Wd := (wL w ++ [q], va_up (wK w) q kd, va_up (wI w) q (fun _ => 0), va_up (wR w) q (fun _ => none), va_up (wJ w) q (fun _ => 0), va_up (wN w) q n)
def bw_is (w : Wd) (a ci : Nat) : Prop := a ∈ wL w ∧ wK w a = ci
def bw_v (t : Nat) (i : Int32) (r : Option Nat) (j : Int64) : Value := match t with
  | 0 => .int i
  | 1 => va_rf r
  | _ => .long j
def bw_f : List Nat → Nat → (Nat → Int32) → (Nat → Option Nat) → (Nat → Int64) → List Value
  | [], _, _, _, _ => []
  | t :: ts, k, i, r, j => bw_v t (i k) (r k) (j k) :: bw_f ts (k + 1) i r j
theorem bw_f_get : ∀ (ts : List Nat) (k0 : Nat) (i : Nat → Int32) (r : Nat → Option Nat) (j : Nat → Int64) (n : Nat), (bw_f ts k0 i r j)[n]? = (ts[n]?).map (fun t => bw_v t (i (k0 + n)) (r (k0 + n)) (j (k0 + n)))
  | [], _, _, _, _, _ => by simp [bw_f]
  | t :: ts, k0, i, r, j, 0 => by simp [bw_f]
  | t :: ts, k0, i, r, j, n + 1 => by
    simp only [bw_f, List.getElem?_cons_succ]
    rw [bw_f_get ts (k0 + 1) i r j n, show k0 + 1 + n = k0 + (n + 1) by omega]
theorem bw_f_len : ∀ (ts : List Nat) (k0 : Nat) (i : Nat → Int32) (r : Nat → Option Nat) (j : Nat → Int64), (bw_f ts k0 i r j).length = ts.length
  | [], _, _, _, _ => rfl
  | t :: ts, k0, i, r, j => by simp [bw_f, bw_f_len ts]
/-- what lies at places below k0, or of another type, doesn't matter -/
theorem bw_f_eq : ∀ (ts : List Nat) (k0 : Nat) (i i' : Nat → Int32) (r r' : Nat → Option Nat) (j j' : Nat → Int64), (∀ n t, ts[n]? = some t → bw_v t (i (k0 + n)) (r (k0 + n)) (j (k0 + n)) = bw_v t (i' (k0 + n)) (r' (k0 + n)) (j' (k0 + n))) → bw_f ts k0 i r j = bw_f ts k0 i' r' j' := by
  intro ts k0 i i' r r' j j' h
  apply List.ext_getElem?
  intro n
  rw [bw_f_get, bw_f_get]
  cases ht : ts[n]? with
  | none => rfl
  | some t => simp only [Option.map_some]; rw [h n t ht]
theorem bw_f_set (ts : List Nat) (i : Nat → Int32) (r : Nat → Option Nat) (j : Nat → Int64) (k t : Nat) (v : Value) (i' : Nat → Int32) (r' : Nat → Option Nat) (j' : Nat → Int64) (ht : ts[k]? = some t) (hv : v = bw_v t (i' k) (r' k) (j' k)) (ho : ∀ n u, n ≠ k → ts[n]? = some u → bw_v u (i n) (r n) (j n) = bw_v u (i' n) (r' n) (j' n)) :
    (bw_f ts 0 i r j).set k v = bw_f ts 0 i' r' j' := by
  have hk : k < ts.length := (List.getElem?_eq_some_iff.mp ht).1
  apply List.ext_getElem?
  intro n
  by_cases hn : n = k
  · subst hn
    rw [List.getElem?_set_self (by rw [bw_f_len]; exact hk), bw_f_get, ht]
    simp only [Option.map_some, Nat.zero_add]
    rw [hv]
  · rw [List.getElem?_set_ne (Ne.symm hn), bw_f_get, bw_f_get]
    cases hu : ts[n]? with
    | none => rfl
    | some u =>
      simp only [Option.map_some, Nat.zero_add]
      rw [ho n u hn hu]
theorem bw_setI (ts : List Nat) (i : Nat → Int32) (r : Nat → Option Nat) (j : Nat → Int64) (k : Nat) (v : Int32) (ht : ts[k]? = some 0) : (bw_f ts 0 i r j).set k (.int v) = bw_f ts 0 (va_up i k v) r j :=
  bw_f_set ts i r j k 0 _ _ _ _ ht (by rw [va_up_self]; rfl) (fun n u hn _ => by rw [va_up_ne _ _ hn])
theorem bw_setR (ts : List Nat) (i : Nat → Int32) (r : Nat → Option Nat) (j : Nat → Int64) (k : Nat) (v : Option Nat) (ht : ts[k]? = some 1) : (bw_f ts 0 i r j).set k (va_rf v) = bw_f ts 0 i (va_up r k v) j :=
  bw_f_set ts i r j k 1 _ _ _ _ ht (by rw [va_up_self]; rfl) (fun n u hn _ => by rw [va_up_ne _ _ hn])
theorem bw_setJ (ts : List Nat) (i : Nat → Int32) (r : Nat → Option Nat) (j : Nat → Int64) (k : Nat) (v : Int64) (ht : ts[k]? = some 2) : (bw_f ts 0 i r j).set k (.long v) = bw_f ts 0 i r (va_up j k v) :=
  bw_f_set ts i r j k 2 _ _ _ _ ht (by rw [va_up_self]; rfl) (fun n u hn _ => by rw [va_up_ne _ _ hn])
/-- an array's contents by its kind -/
def bw_ar (kd : Nat) (i : Nat → Int32) (r : Nat → Option Nat) (j : Nat → Int64) : (Nat → Int32) ⊕ (Nat → Int64) ⊕ (Nat → UInt32) ⊕ (Nat → UInt64) ⊕ (Nat → Option Nat) :=
  if kd = 100 then .inr (.inr (.inr (.inr r))) else if kd = 102 then .inr (.inl j) else .inl i
/-- the cell of an address -/
def bw_c (FT : Nat → List Nat) (AC : Nat → ClassId) (w : Wd) (a : Nat) : va_E :=
  if wK w a < 100 then .inr (wK w a, bw_f (FT (wK w a)) 0 (wI w a) (wR w a) (wJ w a)) else .inl (AC (wK w a), wN w a, bw_ar (wK w a) (wI w a) (wR w a) (wJ w a))
theorem bw_c_o {FT : Nat → List Nat} {AC : Nat → ClassId} {w : Wd} {a ci : Nat} (h : wK w a = ci) (h1 : ci < 100) : bw_c FT AC w a = .inr (ci, bw_f (FT ci) 0 (wI w a) (wR w a) (wJ w a)) := by
  unfold bw_c; rw [h, if_pos h1]
theorem bw_c_a {FT : Nat → List Nat} {AC : Nat → ClassId} {w : Wd} {a kd : Nat} (h : wK w a = kd) (h1 : ¬ kd < 100) : bw_c FT AC w a = .inl (AC kd, wN w a, bw_ar kd (wI w a) (wR w a) (wJ w a)) := by
  unfold bw_c; rw [h, if_neg h1]
/-- the heap holds the world; it lies in A; nothing outside A has changed since H0 -/
def HW (D : va_G) (cl : List vw_C) (FT : Nat → List Nat) (AC : Nat → ClassId) (A : Nat → Prop) (H0 H : Heap) (locs : List Loc) (w : Wd) : Prop :=
  va_P D cl (va_pl (wL w) (bw_c FT AC w)) H ∧ va_D A (va_pl (wL w) (bw_c FT AC w)) ∧ va_S A H0 H locs
theorem bw_upc {FT : Nat → List Nat} {AC : Nat → ClassId} {w w' : Wd} {a : Nat} {x : va_E} (hK : wK w' = wK w) (hN : wN w' = wN w) (hx : bw_c FT AC w' a = x) (ho : ∀ b, b ≠ a → wI w' b = wI w b ∧ wR w' b = wR w b ∧ wJ w' b = wJ w b) : ∀ b, va_up (bw_c FT AC w) a x b = bw_c FT AC w' b := by
  intro b
  by_cases hb : b = a
  · subst hb; rw [va_up_self]; exact hx.symm
  · rw [va_up_ne _ _ hb]
    obtain ⟨h1, h2, h3⟩ := ho b hb
    unfold bw_c
    rw [hK, hN, h1, h2, h3]
/-- a cell has been written: the new world -/
theorem bw_put {D : va_G} {cl : List vw_C} {FT : Nat → List Nat} {AC : Nat → ClassId} {A : Nat → Prop} {H0 H H1 : Heap} {locs locs1 : List Loc} {w w' : Wd} {a q0 : Nat} {x : va_E} (hW : HW D cl FT AC A H0 H locs w) (ha : a ∈ wL w) (hq : (va_pl (wL w) (bw_c FT AC w))[q0]? = some (a, bw_c FT AC w a))
    (hP : va_P D cl ((va_pl (wL w) (bw_c FT AC w)).set q0 (a, x)) H1) (hD : va_D A ((va_pl (wL w) (bw_c FT AC w)).set q0 (a, x))) (hS : va_S A H0 H1 locs1)
    (hL : wL w' = wL w) (hu : ∀ b, va_up (bw_c FT AC w) a x b = bw_c FT AC w' b) : HW D cl FT AC A H0 H1 locs1 w' := by
  have e : (va_pl (wL w) (bw_c FT AC w)).set q0 (a, x) = va_pl (wL w') (bw_c FT AC w') := by
    have h1 := va_pl_set (X := []) (e := x) hW.2.1 ha hq
    rw [hL, ← va_pl_congr hu]
    exact h1
  rw [e] at hP hD
  exact ⟨hP, hD, hS⟩
/-- a cell is new: the new world -/
theorem bw_push {D : va_G} {cl : List vw_C} {FT : Nat → List Nat} {AC : Nat → ClassId} {A : Nat → Prop} {H0 H H1 : Heap} {locs locs1 : List Loc} {w : Wd} {q kd n : Nat} {x : va_E} (hW : HW D cl FT AC A H0 H locs w)
    (hP : va_P D cl (va_pl (wL w) (bw_c FT AC w) ++ [(q, x)]) H1) (hD : va_D A (va_pl (wL w) (bw_c FT AC w) ++ [(q, x)])) (hS : va_S A H0 H1 locs1)
    (hx : bw_c FT AC (bw_new w q kd n) q = x) : q ∉ wL w ∧ HW D cl FT AC A H0 H1 locs1 (bw_new w q kd n) := by
  have hq : q ∉ wL w := by
    intro h
    obtain ⟨k, hk⟩ := va_pl_get (X := []) (f := bw_c FT AC w) h
    have hk' : (va_pl (wL w) (bw_c FT AC w))[k]? = some (q, bw_c FT AC w q) := hk
    have hlt := (List.getElem?_eq_some_iff.mp hk').1
    have h1 : (va_pl (wL w) (bw_c FT AC w) ++ [(q, x)])[k]? = some (q, bw_c FT AC w q) := by rw [List.getElem?_append_left hlt]; exact hk'
    have h2 : (va_pl (wL w) (bw_c FT AC w) ++ [(q, x)])[(va_pl (wL w) (bw_c FT AC w)).length]? = some (q, x) := by rw [List.getElem?_append_right (Nat.le_refl _)]; simp
    have := hD.1 _ _ _ _ h1 h2 rfl
    omega
  have e : va_pl (wL w) (bw_c FT AC w) ++ [(q, x)] = va_pl (wL (bw_new w q kd n)) (bw_c FT AC (bw_new w q kd n)) := by
    rw [va_pl_push hq]
    show va_pl (wL w ++ [q]) _ = va_pl (wL w ++ [q]) _
    refine va_pl_congr (fun b => ?_)
    by_cases hb : b = q
    · subst hb; rw [va_up_self]; exact hx.symm
    · rw [va_up_ne _ _ hb]
      have e1 : wK (bw_new w q kd n) b = wK w b := va_up_ne _ _ hb
      have e2 : wI (bw_new w q kd n) b = wI w b := va_up_ne _ _ hb
      have e3 : wR (bw_new w q kd n) b = wR w b := va_up_ne _ _ hb
      have e4 : wJ (bw_new w q kd n) b = wJ w b := va_up_ne _ _ hb
      have e5 : wN (bw_new w q kd n) b = wN w b := va_up_ne _ _ hb
      unfold bw_c
      rw [e1, e2, e3, e4, e5]
  rw [e] at hP hD
  exact ⟨hq, hP, hD, hS⟩
