section
/-! THE PURE SIDE: reads of written worlds; lists -/
theorem pI_I (w : Wd) (a k : Nat) (v : Int32) (b j : Nat) : wI (sI w a k v) b j = if b = a ∧ j = k then v else wI w b j := by
  show va_up (wI w) a (va_up (wI w a) k v) b j = _
  by_cases h : b = a
  · subst h
    rw [va_up_self]
    by_cases h2 : j = k
    · subst h2; rw [va_up_self, if_pos ⟨rfl, rfl⟩]
    · rw [va_up_ne _ _ h2, if_neg (fun z => h2 z.2)]
  · rw [va_up_ne _ _ h, if_neg (fun z => h z.1)]
theorem pR_R (w : Wd) (a k : Nat) (v : Option Nat) (b j : Nat) : wR (sR w a k v) b j = if b = a ∧ j = k then v else wR w b j := by
  show va_up (wR w) a (va_up (wR w a) k v) b j = _
  by_cases h : b = a
  · subst h
    rw [va_up_self]
    by_cases h2 : j = k
    · subst h2; rw [va_up_self, if_pos ⟨rfl, rfl⟩]
    · rw [va_up_ne _ _ h2, if_neg (fun z => h2 z.2)]
  · rw [va_up_ne _ _ h, if_neg (fun z => h z.1)]
theorem pJ_J (w : Wd) (a k : Nat) (v : Int64) (b j : Nat) : wJ (sJ w a k v) b j = if b = a ∧ j = k then v else wJ w b j := by
  show va_up (wJ w) a (va_up (wJ w a) k v) b j = _
  by_cases h : b = a
  · subst h
    rw [va_up_self]
    by_cases h2 : j = k
    · subst h2; rw [va_up_self, if_pos ⟨rfl, rfl⟩]
    · rw [va_up_ne _ _ h2, if_neg (fun z => h2 z.2)]
  · rw [va_up_ne _ _ h, if_neg (fun z => h z.1)]
theorem pI_R (w : Wd) (a k : Nat) (v : Option Nat) : wI (sR w a k v) = wI w := rfl
theorem pI_J (w : Wd) (a k : Nat) (v : Int64) : wI (sJ w a k v) = wI w := rfl
theorem pR_I (w : Wd) (a k : Nat) (v : Int32) : wR (sI w a k v) = wR w := rfl
theorem pR_J (w : Wd) (a k : Nat) (v : Int64) : wR (sJ w a k v) = wR w := rfl
theorem pJ_I (w : Wd) (a k : Nat) (v : Int32) : wJ (sI w a k v) = wJ w := rfl
theorem pJ_R (w : Wd) (a k : Nat) (v : Option Nat) : wJ (sR w a k v) = wJ w := rfl
theorem pK_I (w : Wd) (a k : Nat) (v : Int32) : wK (sI w a k v) = wK w := rfl
theorem pK_R (w : Wd) (a k : Nat) (v : Option Nat) : wK (sR w a k v) = wK w := rfl
theorem pK_J (w : Wd) (a k : Nat) (v : Int64) : wK (sJ w a k v) = wK w := rfl
theorem pL_I (w : Wd) (a k : Nat) (v : Int32) : wL (sI w a k v) = wL w := rfl
theorem pL_R (w : Wd) (a k : Nat) (v : Option Nat) : wL (sR w a k v) = wL w := rfl
theorem pL_J (w : Wd) (a k : Nat) (v : Int64) : wL (sJ w a k v) = wL w := rfl
theorem pN_I (w : Wd) (a k : Nat) (v : Int32) : wN (sI w a k v) = wN w := rfl
theorem pN_R (w : Wd) (a k : Nat) (v : Option Nat) : wN (sR w a k v) = wN w := rfl
theorem pN_J (w : Wd) (a k : Nat) (v : Int64) : wN (sJ w a k v) = wN w := rfl
theorem pis_I (w : Wd) (a k : Nat) (v : Int32) (b ci : Nat) : bw_is (sI w a k v) b ci ↔ bw_is w b ci := Iff.rfl
theorem pis_R (w : Wd) (a k : Nat) (v : Option Nat) (b ci : Nat) : bw_is (sR w a k v) b ci ↔ bw_is w b ci := Iff.rfl
theorem pis_J (w : Wd) (a k : Nat) (v : Int64) (b ci : Nat) : bw_is (sJ w a k v) b ci ↔ bw_is w b ci := Iff.rfl
theorem pL_N (w : Wd) (q kd n : Nat) : wL (bw_new w q kd n) = wL w ++ [q] := rfl
theorem pK_N (w : Wd) (q kd n b : Nat) : wK (bw_new w q kd n) b = if b = q then kd else wK w b := rfl
theorem pN_N (w : Wd) (q kd n b : Nat) : wN (bw_new w q kd n) b = if b = q then n else wN w b := rfl
theorem pI_N (w : Wd) (q kd n b j : Nat) : wI (bw_new w q kd n) b j = if b = q then 0 else wI w b j := by
  show va_up (wI w) q (fun _ => 0) b j = _
  unfold va_up; by_cases h : b = q <;> simp [h]
theorem pR_N (w : Wd) (q kd n b j : Nat) : wR (bw_new w q kd n) b j = if b = q then none else wR w b j := by
  show va_up (wR w) q (fun _ => none) b j = _
  unfold va_up; by_cases h : b = q <;> simp [h]
theorem pJ_N (w : Wd) (q kd n b j : Nat) : wJ (bw_new w q kd n) b j = if b = q then 0 else wJ w b j := by
  show va_up (wJ w) q (fun _ => 0) b j = _
  unfold va_up; by_cases h : b = q <;> simp [h]
/-- the list's array d -/
def hasA (w : Wd) (a : Nat) (xs : List Nat) (d : Nat) : Prop := wR w a 1 = some d ∧ bw_is w d 100 ∧ xs.length ≤ wN w d ∧ 10 ≤ wN w d ∧ wN w d ≤ 40000 ∧ ∀ i, i < xs.length → wR w d i = xs[i]?
/-- what stands at the address a of a list: the objects xs; e0 is the empty array of all new lists -/
def isL (e0 : Nat) (w : Wd) (a : Nat) (xs : List Nat) : Prop := bw_is w a 7 ∧ wI w a 2 = nI xs.length ∧ (∀ x ∈ xs, ∃ cn, bw_is w x cn ∧ cn < 6 ∧ cn ≠ 5) ∧
  ((xs = [] ∧ wR w a 1 = some e0) ∨ ∃ d, hasA w a xs d)
theorem isL_init {e0 mi a : Nat} {w : Wd} {Q : Wd → Prop} (ha : bw_is w a 7) (hs : wI w a 2 = 0) (h : ∀ w', isL e0 w' a [] → w' = sR (sI w a 0 0) a 1 (some e0) → Q w') : wp_Al_init e0 mi a w Q := by
  unfold wp_Al_init wp_Bl_init wp_Bc_init
  refine ⟨ha, ha, h _ ⟨ha, ?_, fun x hx => (by cases hx), Or.inl ⟨rfl, ?_⟩⟩ rfl⟩
  · rw [pI_R, pI_I, if_neg (fun z => by simp at z), hs]; rfl
  · rw [pR_R, if_pos ⟨rfl, rfl⟩]
theorem isL_size {e0 mi a : Nat} {w : Wd} {xs : List Nat} {Q : Int32 → Wd → Prop} (hl : isL e0 w a xs) (h : Q (nI xs.length) w) : wp_Al_size e0 mi a w Q := by
  unfold wp_Al_size
  refine ⟨hl.1, ?_⟩
  rw [hl.2.1]
  exact h
theorem isL_get {e0 mi a i x : Nat} {w : Wd} {xs : List Nat} {Q : Option Nat → Wd → Prop} (hl : isL e0 w a xs) (hx : xs[i]? = some x) (h : Q (some x) w) : wp_Al_get e0 mi a (nI i) w Q := by
  have hi : i < xs.length := (List.getElem?_eq_some_iff.mp hx).1
  obtain ⟨h1, h2, h3, h4⟩ := hl
  rcases h4 with ⟨rfl, -⟩ | ⟨d, e1, e3, e4, e5, e6, e7⟩
  · simp at hi
  · have hlt : xs.length < 2 ^ 31 := by omega
    unfold wp_Al_get wp_Ob_checkIndex wp_Pr_checkIndex wp_Al_elementData
    refine ⟨h1, fun z => absurd z (nI_pos (by omega)), fun _ => ⟨fun _ => ⟨h1, h1, d, e1, e3, vp_in_nI (by omega) (by omega), ?_⟩, fun z => absurd (by rw [h2]; exact nI_lt hi hlt) z⟩⟩
    rw [nI_clamp (by omega), e7 i hi, hx]
    exact h
theorem pR_row (w : Wd) (a : Nat) (f : Nat → Option Nat) (b j : Nat) : wR (sRow w a f) b j = if b = a then f j else wR w b j := by
  show va_up (wR w) a f b j = _
  unfold va_up; by_cases h : b = a <;> simp [h]
/-- behind add: the list has one more, only the list's own cell, its array or a new array have changed -/
def addW (e0 : Nat) (w : Wd) (a x : Nat) (xs : List Nat) (w' : Wd) : Prop :=
  isL e0 w' a (xs ++ [x]) ∧ wJ w' = wJ w ∧ (∀ b, b ∈ wL w → b ∈ wL w' ∧ wK w' b = wK w b ∧ wN w' b = wN w b) ∧ (∀ b, b ∈ wL w → b ≠ a → wI w' b = wI w b) ∧
  (∀ b, b ∈ wL w → b ≠ a → wR w a 1 ≠ some b → wR w' b = wR w b)
/-- add, where there is room -/
theorem isL_add_room {e0 mi a x d nc ns : Nat} {w : Wd} {xs : List Nat} {Q : Int32 → Wd → Prop} (hl : isL e0 w a xs) (hx : ∃ cn, bw_is w x cn ∧ cn < 6 ∧ cn ≠ 5) (hd : hasA w a xs d) (hroom : xs.length < wN w d)
    (h : ∀ w', addW e0 w a x xs w' → wL w' = wL w → Q 1 w') : wp_Al_add e0 mi a (some x) w nc ns Q := by
  obtain ⟨h1, h2, h3, -⟩ := hl
  obtain ⟨e1, e3, e4, e5, e6, e7⟩ := hd
  · have had : d ≠ a := fun z => by
      have k1 := h1.2; have k2 := e3.2
      rw [z] at k2; rw [k1] at k2; exact absurd k2 (by decide)
    have hsz : ∀ v, wI (sI w a 0 v) a 2 = nI xs.length := fun v => by rw [pI_I, if_neg (fun z => by simp at z), h2]
    unfold wp_Al_add wp_Al_add2 wb_Al_add2_11
    refine ⟨h1, 0, 0, Nat.zero_le _, Nat.zero_le _, wN w d, Or.inr ⟨d, by rw [pR_I]; exact e1, e3, rfl⟩, ?_, ?_⟩
    · intro _
      refine ⟨d, by rw [pR_I]; exact e1, e3, ?_, ?_, h1, ?_⟩
      · rw [hsz]
        exact vp_in_nI hroom (show wN w d < 2 ^ 31 by omega)
      · intro b hb; cases hb; exact hx
      · refine h _ ⟨⟨h1, ?_, ?_, Or.inr ⟨d, ?_, e3, ?_, e5, e6, ?_⟩⟩, rfl, fun b hb => ⟨hb, rfl, rfl⟩, ?_, ?_⟩ rfl
        · rw [pI_I, if_pos ⟨rfl, rfl⟩, hsz, nI_1]
          simp
        · intro z hz
          rcases List.mem_append.mp hz with hz | hz
          · exact h3 z hz
          · rw [List.mem_singleton.mp hz]; exact hx
        · rw [pR_I, pR_R, if_neg (fun z => had z.1.symm), pR_I]; exact e1
        · show (xs ++ [x]).length ≤ wN w d
          simp; omega
        · intro i hi
          rw [pR_I, pR_R, pR_I, hsz, nI_clamp (by omega)]
          by_cases hi2 : i = xs.length
          · rw [if_pos ⟨rfl, hi2⟩, hi2]; simp
          · rw [if_neg (fun z => hi2 z.2), e7 i (by simp at hi; omega), List.getElem?_append_left (by simp at hi; omega)]
        · intro b hb hba
          funext j
          rw [pI_I, if_neg (fun z => hba z.1), pI_R, pI_I, if_neg (fun z => hba z.1)]
        · intro b hb hba hbd
          funext j
          rw [pR_I, pR_R, if_neg (fun z => hbd (by rw [e1, z.1])), pR_I]
    · intro z
      rw [hsz, nI_eq (by omega) (by omega)] at z
      omega
/-- the last of add's steps, on an array d with room at the place n -/
theorem add2_11 {e0 mi a x d nc ns n : Nat} {w : Wd} {Q : Wd → Prop} (h1 : bw_is w a 7) (hx : ∃ cn, bw_is w x cn ∧ cn < 6 ∧ cn ≠ 5) (e3 : bw_is w d 100) (hr : n < wN w d) (hN : wN w d ≤ 40000) (h : Q (sI (sR w d n (some x)) a 2 (nI (n + 1)))) : wb_Al_add2_11 e0 mi Q a (some x) (some d) (nI n) w nc ns := by
  unfold wb_Al_add2_11
  refine ⟨d, rfl, e3, vp_in_nI hr (by omega), ?_, h1, ?_⟩
  · intro b hb; cases hb; exact hx
  · rw [nI_clamp (by omega), nI_1]
    exact h
/-- add, the first of all: ten places are made -/
theorem isL_add_first {e0 mi a x nc ns : Nat} {w : Wd} {Q : Int32 → Wd → Prop} (hl : isL e0 w a []) (he : wR w a 1 = some e0) (hx : ∃ cn, bw_is w x cn ∧ cn < 6 ∧ cn ≠ 5) (hnc : 1 ≤ nc) (hns : 10 ≤ ns)
    (h : ∀ q w', q ∉ wL w → w' = sI (sR (sR (bw_new (sI w a 0 (wI w a 0 + 1)) q 100 10) a 1 (some q)) q 0 (some x)) a 2 (nI 1) → Q 1 w') : wp_Al_add e0 mi a (some x) w nc ns Q := by
  obtain ⟨h1, h2, h3, -⟩ := hl
  have hsz : ∀ v, wI (sI w a 0 v) a 2 = nI 0 := fun v => by rw [pI_I, if_neg (fun z => by simp at z), h2]; rfl
  have i10 : (10 : Int32).toNatClampNeg = 10 := by decide
  unfold wp_Al_add wp_Al_add2 wp_Al_grow wp_Al_grow2
  refine ⟨h1, 1, 10, hnc, hns, 0, Or.inl ⟨by rw [pR_I]; exact he, rfl⟩, fun z => absurd (hsz _) z, fun _ => ⟨h1, 1, 10, Nat.le_refl _, Nat.le_refl _, h1, 1, 10, Nat.le_refl _, Nat.le_refl _, h1, 0, Or.inl ⟨by rw [pR_I]; exact he, rfl⟩, fun i4 e4 => ⟨fun z => absurd z (by rw [e4]; decide), fun _ => ⟨fun _ i7 e7 => ?_, fun z => absurd (show wR (sI w a 0 (wI w a 0 + 1)) a 1 = some e0 by rw [pR_I]; exact he) z⟩⟩⟩⟩
  have e10 : i7 = 10 := by rw [e7, hsz]; decide
  subst e10
  refine ⟨by decide, by decide, Nat.le_refl _, by decide, fun q hq w14 ew => ?_⟩
  rw [i10] at ew
  have hqa : a ≠ q := fun z => hq (z ▸ h1.1)
  rw [hsz]
  have f1 : bw_is w14 a 7 := by rw [ew]; exact bw_is_new hq h1
  have f2 : bw_is w14 q 100 := by rw [ew]; exact bw_is_self _ _ _ _
  have f3 : wN w14 q = 10 := by rw [ew, pN_N, if_pos rfl]
  refine add2_11 (n := 0) f1 ?_ f2 (show 0 < wN w14 q by rw [f3]; decide) (show wN w14 q ≤ 40000 by rw [f3]; decide) ?_
  · obtain ⟨cn, k1, k2⟩ := hx
    have k3 : bw_is w14 x cn := by rw [ew]; exact bw_is_new (n := 10) hq k1
    exact ⟨cn, k3, k2⟩
  · exact h q _ hq (by rw [ew])
end
section
/-! THE REFERENCE'S CELLS: its arrays, by the slots of its fields -/
def mKd (k : Nat) : Nat := [0, 0, 0, 0, 101, 101, 103, 101, 101, 101, 101, 101, 0, 101, 101, 101, 101, 101, 103, 101, 101, 0, 101, 101, 101, 0, 102, 0, 102, 0, 0, 101].getD k 0
def mLn (k : Nat) : Nat := [0, 0, 0, 0, 8, 8, 8, 16, 16, 16, 8, 480, 0, 61, 61, 61, 61, 61, 61, 61, 61, 0, 4, 4, 4, 0, 3000, 0, 6000, 0, 0, 60].getD k 0
theorem mKd_hi {k : Nat} (h : 0 < mKd k) : 101 ≤ mKd k ∧ mKd k ≤ 103 ∧ k < 32 := by
  by_cases hk : k < 32
  · have : ∀ k, k < 32 → 0 < mKd k → 101 ≤ mKd k ∧ mKd k ≤ 103 := by decide
    exact ⟨(this k hk h).1, (this k hk h).2, hk⟩
  · exfalso
    have h0 : mKd k = 0 := by
      unfold mKd
      rw [List.getD_eq_getElem?_getD, List.getElem?_eq_none (by simp; omega)]; rfl
    omega
/-- the reference stands at m, its arrays at the addresses A -/
def isM (w : Wd) (m : Nat) (A : Nat → Nat) : Prop := bw_is w m 6 ∧ (∀ k, 0 < mKd k → wR w m k = some (A k) ∧ bw_is w (A k) (mKd k) ∧ wN w (A k) = mLn k) ∧ ∀ j k, 0 < mKd j → 0 < mKd k → A j = A k → j = k
/-- while it is made: the slots below n are done -/
def mIn (n : Nat) (w0 w : Wd) (m : Nat) (A : Nat → Nat) : Prop :=
  bw_is w m 6 ∧ (∀ j, wI w m j = if j = 2 then 100 else 0) ∧
  (∀ k, k < n → 0 < mKd k → wR w m k = some (A k) ∧ bw_is w (A k) (mKd k) ∧ wN w (A k) = mLn k ∧ (∀ j, wI w (A k) j = 0 ∧ wJ w (A k) j = 0)) ∧
  (∀ j k, j < n → k < n → 0 < mKd j → 0 < mKd k → A j = A k → j = k) ∧
  (∀ b, b ∈ wL w0 → b ∈ wL w ∧ wK w b = wK w0 b ∧ wN w b = wN w0 b ∧ (b ≠ m → wI w b = wI w0 b ∧ wR w b = wR w0 b ∧ wJ w b = wJ w0 b))
theorem mIn_skip {n : Nat} {w0 w : Wd} {m : Nat} {A : Nat → Nat} (h : mIn n w0 w m A) (hk : mKd n = 0) : mIn (n + 1) w0 w m A := by
  obtain ⟨h1, h2, h3, h4, h5⟩ := h
  refine ⟨h1, h2, fun k hk2 hk3 => h3 k ?_ hk3, fun j k hj hk2 pj pk => h4 j k ?_ ?_ pj pk, h5⟩
  · rcases Nat.lt_or_eq_of_le (Nat.le_of_lt_succ hk2) with z | z
    · exact z
    · subst z; omega
  · rcases Nat.lt_or_eq_of_le (Nat.le_of_lt_succ hj) with z | z
    · exact z
    · subst z; omega
  · rcases Nat.lt_or_eq_of_le (Nat.le_of_lt_succ hk2) with z | z
    · exact z
    · subst z; omega
theorem mIn_step {n : Nat} {w0 w : Wd} {m q kd ln : Nat} {A : Nat → Nat} (h : mIn n w0 w m A) (hk : mKd n = kd) (hn : mLn n = ln) (hq : q ∉ wL w) : mIn (n + 1) w0 (sR (bw_new w q kd ln) m n (some q)) m (va_up A n q) := by
  obtain ⟨h1, h2, h3, h4, h5⟩ := h
  have hmq : m ≠ q := fun z => hq (z ▸ h1.1)
  have hAq : ∀ k, k < n → 0 < mKd k → A k ≠ q := fun k a b z => hq (z ▸ (h3 k a b).2.1.1)
  have hAm : ∀ k, k < n → 0 < mKd k → A k ≠ m := fun k a b z => by
    have e1 := (h3 k a b).2.1.2
    rw [z, h1.2] at e1
    have := mKd_hi b
    omega
  refine ⟨bw_is_new (n := ln) hq h1, ?_, ?_, ?_, ?_⟩
  · intro j
    rw [pI_R, pI_N, if_neg hmq]; exact h2 j
  · intro k hkn hk0
    rcases Nat.lt_or_eq_of_le (Nat.le_of_lt_succ hkn) with z | z
    · have hne : k ≠ n := by omega
      obtain ⟨a1, a2, a3, a4⟩ := h3 k z hk0
      rw [va_up_ne _ _ hne]
      refine ⟨?_, bw_is_new (n := ln) hq a2, ?_, fun j => ⟨?_, ?_⟩⟩
      · rw [pR_R, if_neg (fun z => hne z.2), pR_N, if_neg hmq]; exact a1
      · rw [pN_R, pN_N, if_neg (hAq k z hk0)]; exact a3
      · rw [pI_R, pI_N, if_neg (hAq k z hk0)]; exact (a4 j).1
      · rw [pJ_R, pJ_N, if_neg (hAq k z hk0)]; exact (a4 j).2
    · subst z
      rw [va_up_self]
      refine ⟨?_, ?_, ?_, fun j => ⟨?_, ?_⟩⟩
      · rw [pR_R, if_pos ⟨rfl, rfl⟩]
      · rw [hk]; exact bw_is_self w q kd ln
      · rw [pN_R, pN_N, if_pos rfl, hn]
      · rw [pI_R, pI_N, if_pos rfl]
      · rw [pJ_R, pJ_N, if_pos rfl]
  · intro j k hj hk2 pj pk hjk
    rcases Nat.lt_or_eq_of_le (Nat.le_of_lt_succ hj) with z | z <;> rcases Nat.lt_or_eq_of_le (Nat.le_of_lt_succ hk2) with z2 | z2
    · rw [va_up_ne _ _ (by omega : j ≠ n), va_up_ne _ _ (by omega : k ≠ n)] at hjk
      exact h4 j k z z2 pj pk hjk
    · subst z2
      rw [va_up_ne _ _ (by omega : j ≠ k), va_up_self] at hjk
      exact absurd hjk (hAq j z pj)
    · subst z
      rw [va_up_ne _ _ (by omega : k ≠ j), va_up_self] at hjk
      exact absurd hjk.symm (hAq k z2 pk)
    · omega
  · intro b hb
    obtain ⟨b1, b2, b3, b4⟩ := h5 b hb
    have hbq : b ≠ q := fun z => hq (z ▸ b1)
    refine ⟨List.mem_append_left _ b1, ?_, ?_, fun hbm => ?_⟩
    · rw [pK_R, pK_N, if_neg hbq]; exact b2
    · rw [pN_R, pN_N, if_neg hbq]; exact b3
    · obtain ⟨c1, c2, c3⟩ := b4 hbm
      refine ⟨?_, ?_, ?_⟩
      · funext j; rw [pI_R, pI_N, if_neg hbq, c1]
      · funext j; rw [pR_R, if_neg (fun z => hbm z.1), pR_N, if_neg hbq, c2]
      · funext j; rw [pJ_R, pJ_N, if_neg hbq, c3]
set_option maxHeartbeats 4000000 in
/-- the reference is made -/
theorem isM_init {e0 mi m nc ns : Nat} {w : Wd} {Q : Wd → Prop} (hm : bw_is w m 6) (hI : ∀ j, wI w m j = 0) (hc : 22 ≤ nc) (hs : 10120 ≤ ns) (h : ∀ w' A, mIn 32 w w' m A → Q w') : wp_Mo_init e0 mi m w nc ns Q := by
  unfold wp_Mo_init
  have I0 : mIn 0 w (sI w m 2 100) m (fun _ => 0) := by
    refine ⟨hm, fun j => ?_, fun k hk => (by omega), fun j k hj => (by omega), fun b hb => ⟨hb, rfl, rfl, fun hbm => ⟨?_, rfl, rfl⟩⟩⟩
    · rw [pI_I]
      by_cases hj : j = 2
      · rw [if_pos ⟨rfl, hj⟩, if_pos hj]
      · rw [if_neg (fun z => hj z.2), if_neg hj]; exact hI j
    · funext j; rw [pI_I, if_neg (fun z => hbm z.1)]
  refine ⟨hm, ?_⟩
  replace I0 := mIn_skip I0 (show mKd 0 = 0 by decide)
  replace I0 := mIn_skip I0 (show mKd 1 = 0 by decide)
  replace I0 := mIn_skip I0 (show mKd 2 = 0 by decide)
  replace I0 := mIn_skip I0 (show mKd 3 = 0 by decide)
  have e4 : (8 : Int32).toNatClampNeg = 8 := by decide
  refine ⟨by decide, by decide, Nat.le_trans (by decide) hc, Nat.le_trans (by rw [e4]; decide) hs, fun q4 hq4 w4 ew4 c4 ec4 s4 es4 => ?_⟩
  rw [e4] at ew4 es4
  have I5 := mIn_step I0 (show mKd 4 = 101 by decide) (show mLn 4 = 8 by decide) hq4
  rw [← ew4] at I5
  have hc4 : 21 ≤ c4 := by rw [ec4]; exact Nat.le_sub_of_add_le hc
  have hs4 : 10112 ≤ s4 := by rw [es4]; exact Nat.le_sub_of_add_le hs
  clear I0 ew4 ec4 es4 hc hs
  have e5 : (8 : Int32).toNatClampNeg = 8 := by decide
  refine ⟨by decide, by decide, Nat.le_trans (by decide) hc4, Nat.le_trans (by rw [e5]; decide) hs4, fun q5 hq5 w5 ew5 c5 ec5 s5 es5 => ?_⟩
  rw [e5] at ew5 es5
  have I6 := mIn_step I5 (show mKd 5 = 101 by decide) (show mLn 5 = 8 by decide) hq5
  rw [← ew5] at I6
  have hc5 : 20 ≤ c5 := by rw [ec5]; exact Nat.le_sub_of_add_le hc4
  have hs5 : 10104 ≤ s5 := by rw [es5]; exact Nat.le_sub_of_add_le hs4
  clear I5 ew5 ec5 es5 hc4 hs4
  have e6 : (8 : Int32).toNatClampNeg = 8 := by decide
  refine ⟨by decide, by decide, Nat.le_trans (by decide) hc5, Nat.le_trans (by rw [e6]; decide) hs5, fun q6 hq6 w6 ew6 c6 ec6 s6 es6 => ?_⟩
  rw [e6] at ew6 es6
  have I7 := mIn_step I6 (show mKd 6 = 103 by decide) (show mLn 6 = 8 by decide) hq6
  rw [← ew6] at I7
  have hc6 : 19 ≤ c6 := by rw [ec6]; exact Nat.le_sub_of_add_le hc5
  have hs6 : 10096 ≤ s6 := by rw [es6]; exact Nat.le_sub_of_add_le hs5
  clear I6 ew6 ec6 es6 hc5 hs5
  have e7 : (16 : Int32).toNatClampNeg = 16 := by decide
  refine ⟨by decide, by decide, Nat.le_trans (by decide) hc6, Nat.le_trans (by rw [e7]; decide) hs6, fun q7 hq7 w7 ew7 c7 ec7 s7 es7 => ?_⟩
  rw [e7] at ew7 es7
  have I8 := mIn_step I7 (show mKd 7 = 101 by decide) (show mLn 7 = 16 by decide) hq7
  rw [← ew7] at I8
  have hc7 : 18 ≤ c7 := by rw [ec7]; exact Nat.le_sub_of_add_le hc6
  have hs7 : 10080 ≤ s7 := by rw [es7]; exact Nat.le_sub_of_add_le hs6
  clear I7 ew7 ec7 es7 hc6 hs6
  have e8 : (16 : Int32).toNatClampNeg = 16 := by decide
  refine ⟨by decide, by decide, Nat.le_trans (by decide) hc7, Nat.le_trans (by rw [e8]; decide) hs7, fun q8 hq8 w8 ew8 c8 ec8 s8 es8 => ?_⟩
  rw [e8] at ew8 es8
  have I9 := mIn_step I8 (show mKd 8 = 101 by decide) (show mLn 8 = 16 by decide) hq8
  rw [← ew8] at I9
  have hc8 : 17 ≤ c8 := by rw [ec8]; exact Nat.le_sub_of_add_le hc7
  have hs8 : 10064 ≤ s8 := by rw [es8]; exact Nat.le_sub_of_add_le hs7
  clear I8 ew8 ec8 es8 hc7 hs7
  have e9 : (16 : Int32).toNatClampNeg = 16 := by decide
  refine ⟨by decide, by decide, Nat.le_trans (by decide) hc8, Nat.le_trans (by rw [e9]; decide) hs8, fun q9 hq9 w9 ew9 c9 ec9 s9 es9 => ?_⟩
  rw [e9] at ew9 es9
  have I10 := mIn_step I9 (show mKd 9 = 101 by decide) (show mLn 9 = 16 by decide) hq9
  rw [← ew9] at I10
  have hc9 : 16 ≤ c9 := by rw [ec9]; exact Nat.le_sub_of_add_le hc8
  have hs9 : 10048 ≤ s9 := by rw [es9]; exact Nat.le_sub_of_add_le hs8
  clear I9 ew9 ec9 es9 hc8 hs8
  have e10 : (8 : Int32).toNatClampNeg = 8 := by decide
  refine ⟨by decide, by decide, Nat.le_trans (by decide) hc9, Nat.le_trans (by rw [e10]; decide) hs9, fun q10 hq10 w10 ew10 c10 ec10 s10 es10 => ?_⟩
  rw [e10] at ew10 es10
  have I11 := mIn_step I10 (show mKd 10 = 101 by decide) (show mLn 10 = 8 by decide) hq10
  rw [← ew10] at I11
  have hc10 : 15 ≤ c10 := by rw [ec10]; exact Nat.le_sub_of_add_le hc9
  have hs10 : 10040 ≤ s10 := by rw [es10]; exact Nat.le_sub_of_add_le hs9
  clear I10 ew10 ec10 es10 hc9 hs9
  have e11 : (480 : Int32).toNatClampNeg = 480 := by decide
  refine ⟨by decide, by decide, Nat.le_trans (by decide) hc10, Nat.le_trans (by rw [e11]; decide) hs10, fun q11 hq11 w11 ew11 c11 ec11 s11 es11 => ?_⟩
  rw [e11] at ew11 es11
  have I12 := mIn_step I11 (show mKd 11 = 101 by decide) (show mLn 11 = 480 by decide) hq11
  rw [← ew11] at I12
  have hc11 : 14 ≤ c11 := by rw [ec11]; exact Nat.le_sub_of_add_le hc10
  have hs11 : 9560 ≤ s11 := by rw [es11]; exact Nat.le_sub_of_add_le hs10
  clear I11 ew11 ec11 es11 hc10 hs10
  replace I12 := mIn_skip I12 (show mKd 12 = 0 by decide)
  have e13 : (61 : Int32).toNatClampNeg = 61 := by decide
  refine ⟨by decide, by decide, Nat.le_trans (by decide) hc11, Nat.le_trans (by rw [e13]; decide) hs11, fun q13 hq13 w13 ew13 c13 ec13 s13 es13 => ?_⟩
  rw [e13] at ew13 es13
  have I14 := mIn_step I12 (show mKd 13 = 101 by decide) (show mLn 13 = 61 by decide) hq13
  rw [← ew13] at I14
  have hc13 : 13 ≤ c13 := by rw [ec13]; exact Nat.le_sub_of_add_le hc11
  have hs13 : 9499 ≤ s13 := by rw [es13]; exact Nat.le_sub_of_add_le hs11
  clear I12 ew13 ec13 es13 hc11 hs11
  have e14 : (61 : Int32).toNatClampNeg = 61 := by decide
  refine ⟨by decide, by decide, Nat.le_trans (by decide) hc13, Nat.le_trans (by rw [e14]; decide) hs13, fun q14 hq14 w14 ew14 c14 ec14 s14 es14 => ?_⟩
  rw [e14] at ew14 es14
  have I15 := mIn_step I14 (show mKd 14 = 101 by decide) (show mLn 14 = 61 by decide) hq14
  rw [← ew14] at I15
  have hc14 : 12 ≤ c14 := by rw [ec14]; exact Nat.le_sub_of_add_le hc13
  have hs14 : 9438 ≤ s14 := by rw [es14]; exact Nat.le_sub_of_add_le hs13
  clear I14 ew14 ec14 es14 hc13 hs13
  have e15 : (61 : Int32).toNatClampNeg = 61 := by decide
  refine ⟨by decide, by decide, Nat.le_trans (by decide) hc14, Nat.le_trans (by rw [e15]; decide) hs14, fun q15 hq15 w15 ew15 c15 ec15 s15 es15 => ?_⟩
  rw [e15] at ew15 es15
  have I16 := mIn_step I15 (show mKd 15 = 101 by decide) (show mLn 15 = 61 by decide) hq15
  rw [← ew15] at I16
  have hc15 : 11 ≤ c15 := by rw [ec15]; exact Nat.le_sub_of_add_le hc14
  have hs15 : 9377 ≤ s15 := by rw [es15]; exact Nat.le_sub_of_add_le hs14
  clear I15 ew15 ec15 es15 hc14 hs14
  have e16 : (61 : Int32).toNatClampNeg = 61 := by decide
  refine ⟨by decide, by decide, Nat.le_trans (by decide) hc15, Nat.le_trans (by rw [e16]; decide) hs15, fun q16 hq16 w16 ew16 c16 ec16 s16 es16 => ?_⟩
  rw [e16] at ew16 es16
  have I17 := mIn_step I16 (show mKd 16 = 101 by decide) (show mLn 16 = 61 by decide) hq16
  rw [← ew16] at I17
  have hc16 : 10 ≤ c16 := by rw [ec16]; exact Nat.le_sub_of_add_le hc15
  have hs16 : 9316 ≤ s16 := by rw [es16]; exact Nat.le_sub_of_add_le hs15
  clear I16 ew16 ec16 es16 hc15 hs15
  have e17 : (61 : Int32).toNatClampNeg = 61 := by decide
  refine ⟨by decide, by decide, Nat.le_trans (by decide) hc16, Nat.le_trans (by rw [e17]; decide) hs16, fun q17 hq17 w17 ew17 c17 ec17 s17 es17 => ?_⟩
  rw [e17] at ew17 es17
  have I18 := mIn_step I17 (show mKd 17 = 101 by decide) (show mLn 17 = 61 by decide) hq17
  rw [← ew17] at I18
  have hc17 : 9 ≤ c17 := by rw [ec17]; exact Nat.le_sub_of_add_le hc16
  have hs17 : 9255 ≤ s17 := by rw [es17]; exact Nat.le_sub_of_add_le hs16
  clear I17 ew17 ec17 es17 hc16 hs16
  have e18 : (61 : Int32).toNatClampNeg = 61 := by decide
  refine ⟨by decide, by decide, Nat.le_trans (by decide) hc17, Nat.le_trans (by rw [e18]; decide) hs17, fun q18 hq18 w18 ew18 c18 ec18 s18 es18 => ?_⟩
  rw [e18] at ew18 es18
  have I19 := mIn_step I18 (show mKd 18 = 103 by decide) (show mLn 18 = 61 by decide) hq18
  rw [← ew18] at I19
  have hc18 : 8 ≤ c18 := by rw [ec18]; exact Nat.le_sub_of_add_le hc17
  have hs18 : 9194 ≤ s18 := by rw [es18]; exact Nat.le_sub_of_add_le hs17
  clear I18 ew18 ec18 es18 hc17 hs17
  have e19 : (61 : Int32).toNatClampNeg = 61 := by decide
  refine ⟨by decide, by decide, Nat.le_trans (by decide) hc18, Nat.le_trans (by rw [e19]; decide) hs18, fun q19 hq19 w19 ew19 c19 ec19 s19 es19 => ?_⟩
  rw [e19] at ew19 es19
  have I20 := mIn_step I19 (show mKd 19 = 101 by decide) (show mLn 19 = 61 by decide) hq19
  rw [← ew19] at I20
  have hc19 : 7 ≤ c19 := by rw [ec19]; exact Nat.le_sub_of_add_le hc18
  have hs19 : 9133 ≤ s19 := by rw [es19]; exact Nat.le_sub_of_add_le hs18
  clear I19 ew19 ec19 es19 hc18 hs18
  have e20 : (61 : Int32).toNatClampNeg = 61 := by decide
  refine ⟨by decide, by decide, Nat.le_trans (by decide) hc19, Nat.le_trans (by rw [e20]; decide) hs19, fun q20 hq20 w20 ew20 c20 ec20 s20 es20 => ?_⟩
  rw [e20] at ew20 es20
  have I21 := mIn_step I20 (show mKd 20 = 101 by decide) (show mLn 20 = 61 by decide) hq20
  rw [← ew20] at I21
  have hc20 : 6 ≤ c20 := by rw [ec20]; exact Nat.le_sub_of_add_le hc19
  have hs20 : 9072 ≤ s20 := by rw [es20]; exact Nat.le_sub_of_add_le hs19
  clear I20 ew20 ec20 es20 hc19 hs19
  replace I21 := mIn_skip I21 (show mKd 21 = 0 by decide)
  have e22 : (4 : Int32).toNatClampNeg = 4 := by decide
  refine ⟨by decide, by decide, Nat.le_trans (by decide) hc20, Nat.le_trans (by rw [e22]; decide) hs20, fun q22 hq22 w22 ew22 c22 ec22 s22 es22 => ?_⟩
  rw [e22] at ew22 es22
  have I23 := mIn_step I21 (show mKd 22 = 101 by decide) (show mLn 22 = 4 by decide) hq22
  rw [← ew22] at I23
  have hc22 : 5 ≤ c22 := by rw [ec22]; exact Nat.le_sub_of_add_le hc20
  have hs22 : 9068 ≤ s22 := by rw [es22]; exact Nat.le_sub_of_add_le hs20
  clear I21 ew22 ec22 es22 hc20 hs20
  have e23 : (4 : Int32).toNatClampNeg = 4 := by decide
  refine ⟨by decide, by decide, Nat.le_trans (by decide) hc22, Nat.le_trans (by rw [e23]; decide) hs22, fun q23 hq23 w23 ew23 c23 ec23 s23 es23 => ?_⟩
  rw [e23] at ew23 es23
  have I24 := mIn_step I23 (show mKd 23 = 101 by decide) (show mLn 23 = 4 by decide) hq23
  rw [← ew23] at I24
  have hc23 : 4 ≤ c23 := by rw [ec23]; exact Nat.le_sub_of_add_le hc22
  have hs23 : 9064 ≤ s23 := by rw [es23]; exact Nat.le_sub_of_add_le hs22
  clear I23 ew23 ec23 es23 hc22 hs22
  have e24 : (4 : Int32).toNatClampNeg = 4 := by decide
  refine ⟨by decide, by decide, Nat.le_trans (by decide) hc23, Nat.le_trans (by rw [e24]; decide) hs23, fun q24 hq24 w24 ew24 c24 ec24 s24 es24 => ?_⟩
  rw [e24] at ew24 es24
  have I25 := mIn_step I24 (show mKd 24 = 101 by decide) (show mLn 24 = 4 by decide) hq24
  rw [← ew24] at I25
  have hc24 : 3 ≤ c24 := by rw [ec24]; exact Nat.le_sub_of_add_le hc23
  have hs24 : 9060 ≤ s24 := by rw [es24]; exact Nat.le_sub_of_add_le hs23
  clear I24 ew24 ec24 es24 hc23 hs23
  replace I25 := mIn_skip I25 (show mKd 25 = 0 by decide)
  have e26 : (3000 : Int32).toNatClampNeg = 3000 := by decide
  refine ⟨by decide, by decide, Nat.le_trans (by decide) hc24, Nat.le_trans (by rw [e26]; decide) hs24, fun q26 hq26 w26 ew26 c26 ec26 s26 es26 => ?_⟩
  rw [e26] at ew26 es26
  have I27 := mIn_step I25 (show mKd 26 = 102 by decide) (show mLn 26 = 3000 by decide) hq26
  rw [← ew26] at I27
  have hc26 : 2 ≤ c26 := by rw [ec26]; exact Nat.le_sub_of_add_le hc24
  have hs26 : 6060 ≤ s26 := by rw [es26]; exact Nat.le_sub_of_add_le hs24
  clear I25 ew26 ec26 es26 hc24 hs24
  replace I27 := mIn_skip I27 (show mKd 27 = 0 by decide)
  have e28 : (6000 : Int32).toNatClampNeg = 6000 := by decide
  refine ⟨by decide, by decide, Nat.le_trans (by decide) hc26, Nat.le_trans (by rw [e28]; decide) hs26, fun q28 hq28 w28 ew28 c28 ec28 s28 es28 => ?_⟩
  rw [e28] at ew28 es28
  have I29 := mIn_step I27 (show mKd 28 = 102 by decide) (show mLn 28 = 6000 by decide) hq28
  rw [← ew28] at I29
  have hc28 : 1 ≤ c28 := by rw [ec28]; exact Nat.le_sub_of_add_le hc26
  have hs28 : 60 ≤ s28 := by rw [es28]; exact Nat.le_sub_of_add_le hs26
  clear I27 ew28 ec28 es28 hc26 hs26
  replace I29 := mIn_skip I29 (show mKd 29 = 0 by decide)
  replace I29 := mIn_skip I29 (show mKd 30 = 0 by decide)
  have e31 : (60 : Int32).toNatClampNeg = 60 := by decide
  refine ⟨by decide, by decide, Nat.le_trans (by decide) hc28, Nat.le_trans (by rw [e31]; decide) hs28, fun q31 hq31 w31 ew31 c31 ec31 s31 es31 => ?_⟩
  rw [e31] at ew31 es31
  have I32 := mIn_step I29 (show mKd 31 = 101 by decide) (show mLn 31 = 60 by decide) hq31
  rw [← ew31] at I32
  have hc31 : 0 ≤ c31 := by rw [ec31]; exact Nat.le_sub_of_add_le hc28
  have hs31 : 0 ≤ s31 := by rw [es31]; exact Nat.le_sub_of_add_le hs28
  clear I29 ew31 ec31 es31 hc28 hs28
  exact h _ _ I32
end
section
/-! THE CLASS IS MADE: six empty lists -/
def cIn (e0 n : Nat) (w0 w : Wd) (q : Nat) (B : Nat → Nat) : Prop :=
  bw_is w q 5 ∧ (∀ j, wI w q j = 0) ∧
  (∀ k, k < n → wR w q k = some (B k) ∧ bw_is w (B k) 7 ∧ wI w (B k) 2 = 0 ∧ wR w (B k) 1 = some e0) ∧
  (∀ j k, j < n → k < n → B j = B k → j = k) ∧
  (∀ b, b ∈ wL w0 → b ∈ wL w ∧ wK w b = wK w0 b ∧ wN w b = wN w0 b ∧ (b ≠ q → wI w b = wI w0 b ∧ wR w b = wR w0 b ∧ wJ w b = wJ w0 b))
theorem cIn_step {e0 n : Nat} {w0 w : Wd} {q p : Nat} {B : Nat → Nat} (h : cIn e0 n w0 w q B) (hp : p ∉ wL w) : cIn e0 (n + 1) w0 (sR (sR (sI (bw_new w p 7 0) p 0 0) p 1 (some e0)) q n (some p)) q (va_up B n p) := by
  obtain ⟨h1, h2, h3, h4, h5⟩ := h
  have hqp : q ≠ p := fun z => hp (z ▸ h1.1)
  have hBp : ∀ k, k < n → B k ≠ p := fun k a z => hp (z ▸ (h3 k a).2.1.1)
  have hBq : ∀ k, k < n → B k ≠ q := fun k a z => by
    have e1 := (h3 k a).2.1.2
    rw [z, h1.2] at e1
    exact absurd e1 (by decide)
  refine ⟨bw_is_new (n := 0) hp h1, ?_, ?_, ?_, ?_⟩
  · intro j
    rw [pI_R, pI_R, pI_I, if_neg (fun z => hqp z.1), pI_N, if_neg hqp]; exact h2 j
  · intro k hkn
    rcases Nat.lt_or_eq_of_le (Nat.le_of_lt_succ hkn) with z | z
    · have hne : k ≠ n := by omega
      obtain ⟨a1, a2, a3, a4⟩ := h3 k z
      rw [va_up_ne _ _ hne]
      refine ⟨?_, bw_is_new (n := 0) hp a2, ?_, ?_⟩
      · rw [pR_R, if_neg (fun z => hne z.2), pR_R, if_neg (fun z => hqp z.1), pR_I, pR_N, if_neg hqp]; exact a1
      · rw [pI_R, pI_R, pI_I, if_neg (fun z2 => hBp k z z2.1), pI_N, if_neg (hBp k z)]; exact a3
      · rw [pR_R, if_neg (fun z2 => hBq k z z2.1), pR_R, if_neg (fun z2 => hBp k z z2.1), pR_I, pR_N, if_neg (hBp k z)]; exact a4
    · subst z
      rw [va_up_self]
      refine ⟨?_, bw_is_self w p 7 0, ?_, ?_⟩
      · rw [pR_R, if_pos ⟨rfl, rfl⟩]
      · rw [pI_R, pI_R, pI_I, if_neg (fun z => by simp at z), pI_N, if_pos rfl]
      · rw [pR_R, if_neg (fun z2 => hqp z2.1.symm), pR_R, if_pos ⟨rfl, rfl⟩]
  · intro j k hj hk2 hjk
    rcases Nat.lt_or_eq_of_le (Nat.le_of_lt_succ hj) with z | z <;> rcases Nat.lt_or_eq_of_le (Nat.le_of_lt_succ hk2) with z2 | z2
    · rw [va_up_ne _ _ (by omega : j ≠ n), va_up_ne _ _ (by omega : k ≠ n)] at hjk
      exact h4 j k z z2 hjk
    · subst z2
      rw [va_up_ne _ _ (by omega : j ≠ k), va_up_self] at hjk
      exact absurd hjk (hBp j z)
    · subst z
      rw [va_up_ne _ _ (by omega : k ≠ j), va_up_self] at hjk
      exact absurd hjk.symm (hBp k z2)
    · omega
  · intro b hb
    obtain ⟨b1, b2, b3, b4⟩ := h5 b hb
    have hbq : b ≠ p := fun z => hp (z ▸ b1)
    refine ⟨List.mem_append_left _ b1, ?_, ?_, fun hbm => ?_⟩
    · rw [pK_R, pK_R, pK_I, pK_N, if_neg hbq]; exact b2
    · rw [pN_R, pN_R, pN_I, pN_N, if_neg hbq]; exact b3
    · obtain ⟨c1, c2, c3⟩ := b4 hbm
      refine ⟨?_, ?_, ?_⟩
      · funext j; rw [pI_R, pI_R, pI_I, if_neg (fun z => hbq z.1), pI_N, if_neg hbq, c1]
      · funext j; rw [pR_R, if_neg (fun z => hbm z.1), pR_R, if_neg (fun z => hbq z.1), pR_I, pR_N, if_neg hbq, c2]
      · funext j; rw [pJ_R, pJ_R, pJ_I, pJ_N, if_neg hbq, c3]
/-- behind the constructor of the class -/
def isC (e0 : Nat) (w0 w : Wd) (q : Nat) (B : Nat → Nat) : Prop := bw_is w q 5 ∧ wI w q 6 = 100 ∧ wI w q 7 = 0 ∧ wI w q 8 = 0 ∧
  (∀ k, k < 6 → wR w q k = some (B k) ∧ bw_is w (B k) 7 ∧ wI w (B k) 2 = 0 ∧ wR w (B k) 1 = some e0) ∧
  (∀ j k, j < 6 → k < 6 → B j = B k → j = k) ∧
  (∀ b, b ∈ wL w0 → b ∈ wL w ∧ wK w b = wK w0 b ∧ wN w b = wN w0 b ∧ (b ≠ q → wI w b = wI w0 b ∧ wR w b = wR w0 b ∧ wJ w b = wJ w0 b))
set_option maxHeartbeats 4000000 in
theorem isC_init {e0 mi q nc ns : Nat} {w : Wd} {Q : Wd → Prop} (hm : bw_is w q 5) (hI : ∀ j, wI w q j = 0) (hc : 6 ≤ nc) (hs : 18 ≤ ns) (h : ∀ w' B, isC e0 w w' q B → Q w') : wp_Br_init e0 mi q w nc ns Q := by
  unfold wp_Br_init
  have I0 : cIn e0 0 w w q (fun _ => 0) := ⟨hm, hI, fun k hk => (by omega), fun j k hj => (by omega), fun b hb => ⟨hb, rfl, rfl, fun _ => ⟨rfl, rfl, rfl⟩⟩⟩
  refine ⟨by omega, by omega, fun p0 hp0 w0 ew0 => ?_⟩
  refine isL_init (by rw [ew0]; exact bw_is_self _ p0 7 0) (by rw [ew0, pI_N, if_pos rfl]) (fun v0 _ ev0 => ?_)
  have I1 := cIn_step I0 hp0
  rw [← ew0, ← ev0] at I1
  clear I0 ew0 ev0
  refine ⟨I1.1, ?_⟩
  refine ⟨by omega, by omega, fun p1 hp1 w1 ew1 => ?_⟩
  refine isL_init (by rw [ew1]; exact bw_is_self _ p1 7 0) (by rw [ew1, pI_N, if_pos rfl]) (fun v1 _ ev1 => ?_)
  have I2 := cIn_step I1 hp1
  rw [← ew1, ← ev1] at I2
  clear I1 ew1 ev1
  refine ⟨I2.1, ?_⟩
  refine ⟨by omega, by omega, fun p2 hp2 w2 ew2 => ?_⟩
  refine isL_init (by rw [ew2]; exact bw_is_self _ p2 7 0) (by rw [ew2, pI_N, if_pos rfl]) (fun v2 _ ev2 => ?_)
  have I3 := cIn_step I2 hp2
  rw [← ew2, ← ev2] at I3
  clear I2 ew2 ev2
  refine ⟨I3.1, ?_⟩
  refine ⟨by omega, by omega, fun p3 hp3 w3 ew3 => ?_⟩
  refine isL_init (by rw [ew3]; exact bw_is_self _ p3 7 0) (by rw [ew3, pI_N, if_pos rfl]) (fun v3 _ ev3 => ?_)
  have I4 := cIn_step I3 hp3
  rw [← ew3, ← ev3] at I4
  clear I3 ew3 ev3
  refine ⟨I4.1, ?_⟩
  refine ⟨by omega, by omega, fun p4 hp4 w4 ew4 => ?_⟩
  refine isL_init (by rw [ew4]; exact bw_is_self _ p4 7 0) (by rw [ew4, pI_N, if_pos rfl]) (fun v4 _ ev4 => ?_)
  have I5 := cIn_step I4 hp4
  rw [← ew4, ← ev4] at I5
  clear I4 ew4 ev4
  refine ⟨I5.1, ?_⟩
  refine ⟨by omega, by omega, fun p5 hp5 w5 ew5 => ?_⟩
  refine isL_init (by rw [ew5]; exact bw_is_self _ p5 7 0) (by rw [ew5, pI_N, if_pos rfl]) (fun v5 _ ev5 => ?_)
  have I6 := cIn_step I5 hp5
  rw [← ew5, ← ev5] at I6
  clear I5 ew5 ev5
  refine ⟨I6.1, ?_⟩
  obtain ⟨g1, g2, g3, g4, g5⟩ := I6
  refine h _ _ ⟨g1, ?_, ?_, ?_, fun k hk => ?_, g4, fun b hb => ?_⟩
  · rw [pI_I, if_neg (fun z => by simp at z), pI_I, if_neg (fun z => by simp at z), pI_I, if_pos ⟨rfl, rfl⟩]
  · rw [pI_I, if_neg (fun z => by simp at z), pI_I, if_pos ⟨rfl, rfl⟩]
  · rw [pI_I, if_pos ⟨rfl, rfl⟩]
  · obtain ⟨a1, a2, a3, a4⟩ := g3 k hk
    have hn : va_up (va_up (va_up (va_up (va_up (va_up (fun _ => 0) 0 p0) 1 p1) 2 p2) 3 p3) 4 p4) 5 p5 k ≠ q := fun z => by
      have e1 := a2.2
      rw [z, g1.2] at e1
      exact absurd e1 (by decide)
    refine ⟨a1, a2, ?_, a4⟩
    rw [pI_I, if_neg (fun z => hn z.1), pI_I, if_neg (fun z => hn z.1), pI_I, if_neg (fun z => hn z.1)]
    exact a3
  · obtain ⟨b1, b2, b3, b4⟩ := g5 b hb
    refine ⟨b1, b2, b3, fun hbq => ?_⟩
    obtain ⟨c1, c2, c3⟩ := b4 hbq
    refine ⟨?_, c2, c3⟩
    rw [← c1]
    funext j
    rw [pI_I, if_neg (fun z => hbq z.1), pI_I, if_neg (fun z => hbq z.1), pI_I, if_neg (fun z => hbq z.1)]
end
section
/-! FRAMES: a call of the class leaves the cells of the reference and of the law as they are -/
def kM (k : Nat) : Prop := k = 6 ∨ 101 ≤ k
def FrC (w w' : Wd) : Prop := ∀ b, b ∈ wL w → b ∈ wL w' ∧ wK w' b = wK w b ∧ wN w' b = wN w b ∧ (kM (wK w b) → wI w' b = wI w b ∧ wR w' b = wR w b ∧ wJ w' b = wJ w b)
theorem FrC.rfl {w : Wd} : FrC w w := fun _ h => ⟨h, Eq.refl _, Eq.refl _, fun _ => ⟨Eq.refl _, Eq.refl _, Eq.refl _⟩⟩
theorem FrC.trans {w1 w2 w3 : Wd} (h1 : FrC w1 w2) (h2 : FrC w2 w3) : FrC w1 w3 := fun b hb => by
  obtain ⟨a1, a2, a3, a4⟩ := h1 b hb
  obtain ⟨b1, b2, b3, b4⟩ := h2 b a1
  refine ⟨b1, b2.trans a2, b3.trans a3, fun hk => ?_⟩
  obtain ⟨c1, c2, c3⟩ := a4 hk
  obtain ⟨d1, d2, d3⟩ := b4 (by rw [a2]; exact hk)
  exact ⟨d1.trans c1, d2.trans c2, d3.trans c3⟩
theorem FrC.sI {w w' : Wd} (h : FrC w w') {a k ci : Nat} {v : Int32} (ha : bw_is w' a ci) (hc : ¬ kM ci) : FrC w (sI w' a k v) := fun b hb => by
  obtain ⟨a1, a2, a3, a4⟩ := h b hb
  refine ⟨a1, a2, a3, fun hk => ?_⟩
  obtain ⟨c1, c2, c3⟩ := a4 hk
  refine ⟨?_, c2, c3⟩
  have hba : b ≠ a := fun z => hc (by rw [← ha.2, ← z, a2]; exact hk)
  rw [← c1]; funext j; rw [pI_I, if_neg (fun z => hba z.1)]
theorem FrC.sR {w w' : Wd} (h : FrC w w') {a k ci : Nat} {v : Option Nat} (ha : bw_is w' a ci) (hc : ¬ kM ci) : FrC w (sR w' a k v) := fun b hb => by
  obtain ⟨a1, a2, a3, a4⟩ := h b hb
  refine ⟨a1, a2, a3, fun hk => ?_⟩
  obtain ⟨c1, c2, c3⟩ := a4 hk
  refine ⟨c1, ?_, c3⟩
  have hba : b ≠ a := fun z => hc (by rw [← ha.2, ← z, a2]; exact hk)
  rw [← c2]; funext j; rw [pR_R, if_neg (fun z => hba z.1)]
theorem FrC.sRow {w w' : Wd} (h : FrC w w') {a ci : Nat} {f : Nat → Option Nat} (ha : bw_is w' a ci) (hc : ¬ kM ci) : FrC w (sRow w' a f) := fun b hb => by
  obtain ⟨a1, a2, a3, a4⟩ := h b hb
  refine ⟨a1, a2, a3, fun hk => ?_⟩
  obtain ⟨c1, c2, c3⟩ := a4 hk
  refine ⟨c1, ?_, c3⟩
  have hba : b ≠ a := fun z => hc (by rw [← ha.2, ← z, a2]; exact hk)
  rw [← c2]; funext j; rw [pR_row, if_neg hba]
theorem FrC.new {w w' : Wd} (h : FrC w w') {q kd n : Nat} (hq : q ∉ wL w') : FrC w (bw_new w' q kd n) := fun b hb => by
  obtain ⟨a1, a2, a3, a4⟩ := h b hb
  have hbq : b ≠ q := fun z => hq (z ▸ a1)
  refine ⟨List.mem_append_left _ a1, ?_, ?_, fun hk => ?_⟩
  · rw [pK_N, if_neg hbq]; exact a2
  · rw [pN_N, if_neg hbq]; exact a3
  · obtain ⟨c1, c2, c3⟩ := a4 hk
    refine ⟨?_, ?_, ?_⟩
    · rw [← c1]; funext j; rw [pI_N, if_neg hbq]
    · rw [← c2]; funext j; rw [pR_N, if_neg hbq]
    · rw [← c3]; funext j; rw [pJ_N, if_neg hbq]
/-- what the reference is, is so behind a call of the class -/
theorem isM_C {w w' : Wd} {m : Nat} {A : Nat → Nat} (h : isM w m A) (hf : FrC w w') : isM w' m A := by
  obtain ⟨h1, h2, h3⟩ := h
  obtain ⟨a1, a2, a3, a4⟩ := hf m h1.1
  obtain ⟨c1, c2, c3⟩ := a4 (Or.inl h1.2)
  refine ⟨⟨a1, a2.trans h1.2⟩, fun k hk => ?_, h3⟩
  obtain ⟨b1, b2, b3⟩ := h2 k hk
  obtain ⟨d1, d2, d3, d4⟩ := hf _ b2.1
  exact ⟨by rw [c2]; exact b1, ⟨d1, d2.trans b2.2⟩, d3.trans b3⟩
/-! THE CLASS ON EMPTY LISTS -/
def eC (w : Wd) (q : Nat) (B : Nat → Nat) : Prop := bw_is w q 5 ∧ ∀ k, k < 6 → wR w q k = some (B k) ∧ bw_is w (B k) 7 ∧ wI w (B k) 2 = 0
theorem eC_of {e0 : Nat} {w0 w : Wd} {q : Nat} {B : Nat → Nat} (h : isC e0 w0 w q B) : eC w q B := ⟨h.1, fun k hk => ⟨(h.2.2.2.2.1 k hk).1, (h.2.2.2.2.1 k hk).2.1, (h.2.2.2.2.1 k hk).2.2.1⟩⟩
theorem eC_sI {w : Wd} {q : Nat} {B : Nat → Nat} (h : eC w q B) (k : Nat) (v : Int32) : eC (sI w q k v) q B := by
  refine ⟨h.1, fun j hj => ⟨(h.2 j hj).1, (h.2 j hj).2.1, ?_⟩⟩
  have hn : B j ≠ q := fun z => by
    have e1 := (h.2 j hj).2.1.2
    rw [z, h.1.2] at e1
    exact absurd e1 (by decide)
  rw [pI_I, if_neg (fun z => hn z.1)]
  exact (h.2 j hj).2.2
/-- the size of one of the lists -/
theorem e_size {e0 mi q k : Nat} {w : Wd} {B : Nat → Nat} {Q : Int32 → Wd → Prop} (h : eC w q B) (hk : k < 6) (hQ : Q 0 w) : ∃ a : Nat, (wR w q k) = some a ∧ (bw_is w a 7 ∧ wp_Al_size e0 mi a w Q) := by
  obtain ⟨h1, h2, h3⟩ := h.2 k hk
  refine ⟨B k, h1, h2, ?_⟩
  unfold wp_Al_size
  refine ⟨h2, ?_⟩
  rw [h3]; exact hQ
theorem i32_nlt (x : Int32) (h : ¬ x < 0) : ¬ x < 0 := h
theorem e_fb {e0 mi q nc ns : Nat} {x1 : Int32} {w : Wd} {B : Nat → Nat} {Q : Option Nat → Wd → Prop} {X : String → Wd → Prop} (h : eC w q B) (hc : 1 ≤ nc) (hs : 6 ≤ ns) (hX : X "java/util/NoSuchElementException" w) : wp_Br_findBelt e0 mi q x1 w nc ns Q X := by
  unfold wp_Br_findBelt wb_Br_findBelt_15
  exact ⟨fun _ => ⟨hc, hs, hX⟩, fun h1 => ⟨h.1, e_size h (by decide) ⟨fun z => absurd z h1, fun _ => ⟨hc, hs, hX⟩⟩⟩⟩
theorem e_fi {e0 mi q nc ns : Nat} {x1 : Int32} {w : Wd} {B : Nat → Nat} {Q : Option Nat → Wd → Prop} {X : String → Wd → Prop} (h : eC w q B) (hc : 1 ≤ nc) (hs : 6 ≤ ns) (hX : X "java/util/NoSuchElementException" w) : wp_Br_findItem e0 mi q x1 w nc ns Q X := by
  unfold wp_Br_findItem wb_Br_findItem_16
  refine ⟨fun _ => ⟨hc, hs, hX⟩, fun h1 => ⟨h.1, e_size h (by decide) ⟨fun z => ?_, fun _ => ⟨hc, hs, hX⟩⟩⟩⟩
  exfalso
  rw [Int32.lt_iff_toInt_lt] at h1
  rw [Int32.le_iff_toInt_le] at z
  have e1 : (1 : Int32).toInt = 1 := by decide
  have e2 : (0 : Int32).toInt = 0 := by decide
  omega
theorem e_pass {e0 mi q nc ns : Nat} {w : Wd} {B : Nat → Nat} {Q : Wd → Prop} (h : eC w q B) (hQ : Q (sI w q 7 (wI w q 7 + 1))) : wp_Br_passSecond e0 mi q w nc ns Q := by
  have h' := eC_sI h 7 (wI w q 7 + 1)
  unfold wp_Br_passSecond wp_Br_tellReads
  refine ⟨h.1, 0, 0, Nat.zero_le _, Nat.zero_le _, h'.1, e_size h' (by decide) ⟨1, ?_⟩⟩
  unfold wb_Br_tellReads_12
  refine ⟨fun _ i2 e2 => ⟨1, ?_⟩, fun z => absurd (by decide) z⟩
  unfold wb_Br_tellReads_75
  subst e2
  refine ⟨fun _ => ⟨h'.1, e_size h' (by decide) (fun i3 e3 => ⟨1, ?_⟩)⟩, fun z => absurd (by decide) z⟩
  unfold wb_Br_passSecond_24
  subst e3
  refine ⟨fun _ => ⟨1, ?_⟩, fun z => absurd (by decide) z⟩
  unfold wb_Br_passSecond_65
  exact ⟨h'.1, e_size h' (by decide) ⟨fun _ => hQ, fun z => absurd (by decide) z⟩⟩
theorem e_stepl {e0 mi q : Nat} {B : Nat → Nat} {w0 : Wd} {Q : Int32 → Wd → Prop} {X : String → Wd → Prop} (hQ : ∀ w', FrC w0 w' → Q 0 w') : ∀ (n j k nc ns : Nat) (w : Wd), j + n = k → k < 2 ^ 31 → eC w q B → FrC w0 w → wb_Br_step_17 e0 mi Q X (n + 1) q (nI k) 0 (nI j) w nc ns
  | 0, j, k, nc, ns, w, hjk, hk, h, hf => by
    unfold wb_Br_step_17
    exact ⟨fun _ => ⟨h.1, e_size h (by decide) (hQ w hf)⟩, fun z => absurd (nI_le (by omega) (by omega)) z⟩
  | n + 1, j, k, nc, ns, w, hjk, hk, h, hf => by
    unfold wb_Br_step_17
    refine ⟨fun z => absurd z (nI_ge (by omega) hk), fun _ => ⟨h.1, 0, 0, Nat.zero_le _, Nat.zero_le _, e_pass h (fun i20 e20 => ?_)⟩⟩
    rw [e20, nI_1]
    exact e_stepl hQ n (j + 1) k _ _ _ (by omega) hk (eC_sI h _ _) (hf.sI h.1 (by unfold kM; omega))
end
section
/-! the same reads, as rows that simp takes by their equations -/
theorem qI_R (w : Wd) (a k : Nat) (v : Option Nat) : wI (sR w a k v) = wI w := (rfl)
theorem qI_J (w : Wd) (a k : Nat) (v : Int64) : wI (sJ w a k v) = wI w := (rfl)
theorem qR_I (w : Wd) (a k : Nat) (v : Int32) : wR (sI w a k v) = wR w := (rfl)
theorem qR_J (w : Wd) (a k : Nat) (v : Int64) : wR (sJ w a k v) = wR w := (rfl)
theorem qJ_I (w : Wd) (a k : Nat) (v : Int32) : wJ (sI w a k v) = wJ w := (rfl)
theorem qJ_R (w : Wd) (a k : Nat) (v : Option Nat) : wJ (sR w a k v) = wJ w := (rfl)
/-! WHAT IS KEPT: all old cells but those of X -/
def Kp (X : Nat → Prop) (w w' : Wd) : Prop := ∀ b, b ∈ wL w → b ∈ wL w' ∧ wK w' b = wK w b ∧ wN w' b = wN w b ∧ (¬ X b → wI w' b = wI w b ∧ wR w' b = wR w b ∧ wJ w' b = wJ w b)
theorem Kp.rfl {X : Nat → Prop} {w : Wd} : Kp X w w := fun _ h => ⟨h, Eq.refl _, Eq.refl _, fun _ => ⟨Eq.refl _, Eq.refl _, Eq.refl _⟩⟩
theorem Kp.trans {X : Nat → Prop} {w1 w2 w3 : Wd} (h1 : Kp X w1 w2) (h2 : Kp X w2 w3) : Kp X w1 w3 := fun b hb => by
  obtain ⟨a1, a2, a3, a4⟩ := h1 b hb
  obtain ⟨b1, b2, b3, b4⟩ := h2 b a1
  refine ⟨b1, b2.trans a2, b3.trans a3, fun hk => ?_⟩
  obtain ⟨c1, c2, c3⟩ := a4 hk
  obtain ⟨d1, d2, d3⟩ := b4 hk
  exact ⟨d1.trans c1, d2.trans c2, d3.trans c3⟩
theorem Kp.mono {X Y : Nat → Prop} {w w' : Wd} (h : Kp X w w') (hXY : ∀ b, b ∈ wL w → X b → Y b) : Kp Y w w' := fun b hb => ⟨(h b hb).1, (h b hb).2.1, (h b hb).2.2.1, fun hy => (h b hb).2.2.2 (fun hx => hy (hXY b hb hx))⟩
theorem Kp.sI {X : Nat → Prop} {w w' : Wd} (h : Kp X w w') {a k : Nat} {v : Int32} (ha : a ∈ wL w → X a) : Kp X w (sI w' a k v) := fun b hb => by
  obtain ⟨a1, a2, a3, a4⟩ := h b hb
  refine ⟨a1, a2, a3, fun hk => ?_⟩
  obtain ⟨c1, c2, c3⟩ := a4 hk
  refine ⟨?_, c2, c3⟩
  have hba : b ≠ a := fun z => hk (z ▸ ha (z ▸ hb))
  rw [← c1]; funext j; rw [pI_I, if_neg (fun z => hba z.1)]
theorem Kp.sJ {X : Nat → Prop} {w w' : Wd} (h : Kp X w w') {a k : Nat} {v : Int64} (ha : a ∈ wL w → X a) : Kp X w (sJ w' a k v) := fun b hb => by
  obtain ⟨a1, a2, a3, a4⟩ := h b hb
  refine ⟨a1, a2, a3, fun hk => ?_⟩
  obtain ⟨c1, c2, c3⟩ := a4 hk
  refine ⟨c1, c2, ?_⟩
  have hba : b ≠ a := fun z => hk (z ▸ ha (z ▸ hb))
  rw [← c3]; funext j; rw [pJ_J, if_neg (fun z => hba z.1)]
theorem Kp.sR {X : Nat → Prop} {w w' : Wd} (h : Kp X w w') {a k : Nat} {v : Option Nat} (ha : a ∈ wL w → X a) : Kp X w (sR w' a k v) := fun b hb => by
  obtain ⟨a1, a2, a3, a4⟩ := h b hb
  refine ⟨a1, a2, a3, fun hk => ?_⟩
  obtain ⟨c1, c2, c3⟩ := a4 hk
  refine ⟨c1, ?_, c3⟩
  have hba : b ≠ a := fun z => hk (z ▸ ha (z ▸ hb))
  rw [← c2]; funext j; rw [pR_R, if_neg (fun z => hba z.1)]
theorem Kp.sRow {X : Nat → Prop} {w w' : Wd} (h : Kp X w w') {a : Nat} {f : Nat → Option Nat} (ha : a ∈ wL w → X a) : Kp X w (sRow w' a f) := fun b hb => by
  obtain ⟨a1, a2, a3, a4⟩ := h b hb
  refine ⟨a1, a2, a3, fun hk => ?_⟩
  obtain ⟨c1, c2, c3⟩ := a4 hk
  refine ⟨c1, ?_, c3⟩
  have hba : b ≠ a := fun z => hk (z ▸ ha (z ▸ hb))
  rw [← c2]; funext j; rw [pR_row, if_neg hba]
theorem Kp.new {X : Nat → Prop} {w w' : Wd} (h : Kp X w w') {q kd n : Nat} (hq : q ∉ wL w') : Kp X w (bw_new w' q kd n) := fun b hb => by
  obtain ⟨a1, a2, a3, a4⟩ := h b hb
  have hbq : b ≠ q := fun z => hq (z ▸ a1)
  refine ⟨List.mem_append_left _ a1, ?_, ?_, fun hk => ?_⟩
  · rw [pK_N, if_neg hbq]; exact a2
  · rw [pN_N, if_neg hbq]; exact a3
  · obtain ⟨c1, c2, c3⟩ := a4 hk
    refine ⟨?_, ?_, ?_⟩
    · rw [← c1]; funext j; rw [pI_N, if_neg hbq]
    · rw [← c2]; funext j; rw [pR_N, if_neg hbq]
    · rw [← c3]; funext j; rw [pJ_N, if_neg hbq]
theorem Kp.is {X : Nat → Prop} {w w' : Wd} (h : Kp X w w') {a ci : Nat} (ha : bw_is w a ci) : bw_is w' a ci := ⟨(h a ha.1).1, (h a ha.1).2.1.trans ha.2⟩
theorem Kp.I {X : Nat → Prop} {w w' : Wd} (h : Kp X w w') {a : Nat} (ha : a ∈ wL w) (hx : ¬ X a) : wI w' a = wI w a := ((h a ha).2.2.2 hx).1
theorem Kp.R {X : Nat → Prop} {w w' : Wd} (h : Kp X w w') {a : Nat} (ha : a ∈ wL w) (hx : ¬ X a) : wR w' a = wR w a := ((h a ha).2.2.2 hx).2.1
theorem Kp.J {X : Nat → Prop} {w w' : Wd} (h : Kp X w w') {a : Nat} (ha : a ∈ wL w) (hx : ¬ X a) : wJ w' a = wJ w a := ((h a ha).2.2.2 hx).2.2
theorem Kp.N {X : Nat → Prop} {w w' : Wd} (h : Kp X w w') {a : Nat} (ha : a ∈ wL w) : wN w' a = wN w a := (h a ha).2.2.1
theorem Kp.K {X : Nat → Prop} {w w' : Wd} (h : Kp X w w') {a : Nat} (ha : a ∈ wL w) : wK w' a = wK w a := (h a ha).2.1
theorem Kp.L {X : Nat → Prop} {w w' : Wd} (h : Kp X w w') {a : Nat} (ha : a ∈ wL w) : a ∈ wL w' := (h a ha).1
theorem Kp.frC {X : Nat → Prop} {w w' : Wd} (h : Kp X w w') (hX : ∀ b, b ∈ wL w → X b → ¬ kM (wK w b)) : FrC w w' := fun b hb => ⟨(h b hb).1, (h b hb).2.1, (h b hb).2.2.1, fun hk => (h b hb).2.2.2 (fun hx => hX b hb hx hk)⟩
/-- two addresses of other kinds are others -/
theorem is_ne {w : Wd} {a b ca cb : Nat} (ha : bw_is w a ca) (hb : bw_is w b cb) (h : ca ≠ cb) : a ≠ b := fun z => h (by rw [← ha.2, ← hb.2, z])
/-- a new belt x with its two ways y and z -/
def newB (w : Wd) (x y z : Nat) (no ln sp : Int32) : Prop := bw_is w x 0 ∧ wI w x 0 = no ∧ wI w x 1 = ln ∧ wI w x 2 = sp ∧ wI w x 3 = 1 ∧ wR w x 4 = none ∧ wR w x 5 = none ∧ wI w x 6 = 0 ∧ wR w x 7 = some y ∧ wR w x 8 = some z ∧
  bw_is w y 4 ∧ wR w y 0 = none ∧ wI w y 1 = 1 ∧ wI w y 2 = 0 ∧ bw_is w z 4 ∧ wR w z 0 = none ∧ wI w z 1 = 1 ∧ wI w z 2 = 0
theorem Bt_init_ok {e0 mi x nc ns : Nat} {no ln sp : Int32} {w : Wd} {Q : Wd → Prop} (hx : bw_is w x 0) (hc : 2 ≤ nc) (hs : 6 ≤ ns)
    (h : ∀ w' y z, y ∉ wL w → z ∉ wL w → y ≠ z → newB w' x y z no ln sp → Kp (fun b => b = x) w w' → Q w') : wp_Bt_init e0 mi x no ln sp w nc ns Q := by
  unfold wp_Bt_init
  refine ⟨hx, by omega, by omega, fun y hy w6 e6 => ?_⟩
  unfold wp_Wy_init
  have hxy : x ≠ y := fun z => hy (z ▸ hx.1)
  have a1 : bw_is w6 x 0 := by rw [e6]; exact bw_is_new (n := 0) hy hx
  have a2 : bw_is w6 y 4 := by rw [e6]; exact bw_is_self _ y 4 0
  have K1 : Kp (fun b => b = x) w w6 := by
    rw [e6]
    exact ((((((((Kp.rfl (X := fun b => b = x)).sI (fun _ => rfl)).sI (fun _ => rfl)).sI (fun _ => rfl)).sI (fun _ => rfl)).sR (fun _ => rfl)).sR (fun _ => rfl)).sI (fun _ => rfl)).new hy
  refine ⟨a2, a1, by omega, by omega, fun z hz w20 e20 => ?_⟩
  have hyz : y ≠ z := fun q => hz (q ▸ a2.1)
  have hxz : x ≠ z := fun q => hz (q ▸ a1.1)
  have b1 : bw_is w20 x 0 := by rw [e20]; exact bw_is_new (n := 0) hz a1
  have b2 : bw_is w20 y 4 := by rw [e20]; exact bw_is_new (n := 0) hz a2
  have b3 : bw_is w20 z 4 := by rw [e20]; exact bw_is_self _ z 4 0
  have K2 : Kp (fun b => b = x) w w20 := by
    rw [e20]
    exact ((((K1.sR (fun q => absurd q hy)).sI (fun q => absurd q hy)).sI (fun q => absurd q hy)).sR (fun _ => rfl)).new hz
  have hz' : z ∉ wL w := fun q => hz (K1.L q)
  refine ⟨b3, b1, h _ y z hy hz' hyz ?_ ((((K2.sR (fun q => absurd q hz')).sI (fun q => absurd q hz')).sI (fun q => absurd q hz')).sR (fun _ => rfl))⟩
  subst e20 e6
  refine ⟨b1, ?_, ?_, ?_, ?_, ?_, ?_, ?_, ?_, ?_, b2, ?_, ?_, ?_, b3, ?_, ?_, ?_⟩ <;> simp [qI_R, pI_I, pI_N, pR_R, qR_I, pR_N, hxy, hxz, hyz, hxy.symm, hxz.symm]
/-! THE LAW'S ROW OF ONE LONG -/
def isRes (w : Wd) (r : Nat) : Prop := bw_is w r 102 ∧ wN w r = 1
theorem isRes_C {w w' : Wd} {r : Nat} (h : isRes w r) (hf : FrC w w') : isRes w' r := ⟨⟨(hf r h.1.1).1, (hf r h.1.1).2.1.trans h.1.2⟩, (hf r h.1.1).2.2.1.trans h.2⟩
theorem r_put {w : Wd} {r : Nat} {v : Int64} {Q : Int32 → Wd → Prop} (h : isRes w r) (hQ : Q 0 (sJ w r 0 v)) : ∃ a10 : Nat, some r = some a10 ∧ (bw_is w a10 102 ∧ (vp_in (0 : Int32) (wN w a10) ∧ (Q (0 : Int32) (sJ w a10 (0 : Int32).toNatClampNeg v)))) :=
  ⟨r, rfl, h.1, by rw [h.2]; exact vp_in_nI (n := 0) (by decide) (by decide), hQ⟩
end
section
/-! THE LAW'S CALLS OF A NEW OBJECT OF THE CLASS -/
def rng (x lo hi : Int32) : Prop := ¬ x < lo ∧ ¬ hi < x
theorem ck_ok {e0 mi nc ns : Nat} {x lo hi : Int32} {w : Wd} {Q : Wd → Prop} {X : String → Wd → Prop} (h1 : ¬ rng x lo hi → 1 ≤ nc ∧ 6 ≤ ns ∧ X "java/lang/IllegalArgumentException" w) (h0 : rng x lo hi → Q w) : wp_Br_checkRange e0 mi x lo hi w nc ns Q X := by
  unfold wp_Br_checkRange wb_Br_checkRange_10
  refine ⟨fun z => h1 (fun r => r.1 z), fun z => ⟨fun z2 => h0 ⟨z, Int32.not_lt.mpr z2⟩, fun z2 => h1 (fun r => z2 (Int32.not_lt.mp r.2))⟩⟩
section EL
variable {e0 mi q r nc ns : Nat} {x1 x2 x3 x4 : Int32} {rr : Option Nat} {w w0 : Wd} {B : Nat → Nat} {Q : Int32 → Wd → Prop}
theorem eL_join (h : eC w q B) (hc : 1 ≤ nc) (hs : 6 ≤ ns) (hQ : Q 1 w) : wp_La_join e0 mi (some q) x1 x2 x3 x4 rr w nc ns Q := by
  unfold wp_La_join wp_Br_join
  exact ⟨q, rfl, h.1, nc, ns, Nat.le_refl _, Nat.le_refl _, h.1, nc, ns, Nat.le_refl _, Nat.le_refl _, e_fb h hc hs (Or.inl ⟨rfl, hQ⟩)⟩
theorem eL_run (h : eC w q B) (hc : 1 ≤ nc) (hs : 6 ≤ ns) (hQ : Q 1 w) : wp_La_run e0 mi (some q) x1 x2 x3 w nc ns Q := by
  unfold wp_La_run wp_Br_run
  exact ⟨q, rfl, h.1, nc, ns, Nat.le_refl _, Nat.le_refl _, h.1, nc, ns, Nat.le_refl _, Nat.le_refl _, e_fb h hc hs (Or.inl ⟨rfl, hQ⟩)⟩
theorem eL_scanner (h : eC w q B) (hc : 1 ≤ nc) (hs : 6 ≤ ns) (hQ : Q 1 w) : wp_La_scanner e0 mi (some q) x1 x2 x3 rr w nc ns Q := by
  unfold wp_La_scanner wp_Br_scanner
  exact ⟨q, rfl, h.1, nc, ns, Nat.le_refl _, Nat.le_refl _, h.1, nc, ns, Nat.le_refl _, Nat.le_refl _, e_fb h hc hs (Or.inl ⟨rfl, hQ⟩)⟩
theorem eL_item (h : eC w q B) (hc : 1 ≤ nc) (hs : 6 ≤ ns) (hQ : Q 1 w) : wp_La_item e0 mi (some q) x1 x2 rr w nc ns Q := by
  unfold wp_La_item wp_Br_item
  exact ⟨q, rfl, h.1, nc, ns, Nat.le_refl _, Nat.le_refl _, h.1, nc, ns, Nat.le_refl _, Nat.le_refl _, e_fb h hc hs (Or.inl ⟨rfl, hQ⟩)⟩
theorem eL_clean (h : eC w q B) (hc : 1 ≤ nc) (hs : 6 ≤ ns) (hQ : Q 1 w) : wp_La_clean e0 mi (some q) x1 rr w nc ns Q := by
  unfold wp_La_clean wp_Br_clean
  exact ⟨q, rfl, h.1, nc, ns, Nat.le_refl _, Nat.le_refl _, h.1, nc, ns, Nat.le_refl _, Nat.le_refl _, e_fb h hc hs (Or.inl ⟨rfl, hQ⟩)⟩
theorem eL_known (h : eC w q B) (hc : 1 ≤ nc) (hs : 6 ≤ ns) (hQ : Q 1 w) : wp_La_known e0 mi (some q) x1 x2 rr w nc ns Q := by
  unfold wp_La_known wp_Br_known
  exact ⟨q, rfl, h.1, nc, ns, Nat.le_refl _, Nat.le_refl _, h.1, nc, ns, Nat.le_refl _, Nat.le_refl _, e_fb h hc hs (Or.inl ⟨rfl, hQ⟩)⟩
theorem eL_divert (h : eC w q B) (hc : 1 ≤ nc) (hs : 6 ≤ ns) (hQ : Q 1 w) : wp_La_divert e0 mi (some q) x1 x2 rr w nc ns Q := by
  unfold wp_La_divert wp_Br_divert
  exact ⟨q, rfl, h.1, nc, ns, Nat.le_refl _, Nat.le_refl _, h.1, nc, ns, Nat.le_refl _, Nat.le_refl _, e_fi h hc hs (Or.inl ⟨rfl, hQ⟩)⟩
theorem eL_slip (h : eC w q B) (hc : 1 ≤ nc) (hs : 6 ≤ ns) (hQ : Q 1 w) : wp_La_slip e0 mi (some q) x1 x2 rr w nc ns Q := by
  unfold wp_La_slip wp_Br_slip
  exact ⟨q, rfl, h.1, nc, ns, Nat.le_refl _, Nat.le_refl _, h.1, nc, ns, Nat.le_refl _, Nat.le_refl _, e_fi h hc hs (Or.inl ⟨rfl, hQ⟩)⟩
theorem eL_take (h : eC w q B) (hc : 1 ≤ nc) (hs : 6 ≤ ns) (hQ : Q 1 w) : wp_La_take e0 mi (some q) x1 w nc ns Q := by
  unfold wp_La_take wp_Br_take
  exact ⟨q, rfl, h.1, nc, ns, Nat.le_refl _, Nat.le_refl _, h.1, nc, ns, Nat.le_refl _, Nat.le_refl _, e_fi h hc hs (Or.inl ⟨rfl, hQ⟩)⟩
theorem eL_gap (h : eC w q B) (hc : 1 ≤ nc) (hs : 6 ≤ ns) (hQ : Q 1 w) : wp_La_gap e0 mi (some q) x1 x2 rr w nc ns Q := by
  unfold wp_La_gap wp_Br_gap
  exact ⟨q, rfl, h.1, nc, ns, Nat.le_refl _, Nat.le_refl _, h.1, nc, ns, Nat.le_refl _, Nat.le_refl _, e_fi h hc hs (Or.inl ⟨rfl, hQ⟩)⟩
theorem eL_told (h : eC w q B) (hc : 1 ≤ nc) (hs : 6 ≤ ns) (hQ : Q 1 w) : wp_La_told e0 mi (some q) x1 x2 rr w nc ns Q := by
  unfold wp_La_told wp_Br_told
  exact ⟨q, rfl, h.1, nc, ns, Nat.le_refl _, Nat.le_refl _, h.1, nc, ns, Nat.le_refl _, Nat.le_refl _, e_fi h hc hs (Or.inl ⟨rfl, hQ⟩)⟩
theorem eL_edge (h : eC w q B) (hc : 1 ≤ nc) (hs : 6 ≤ ns) (hQ : Q 1 w) : wp_La_edge e0 mi (some q) x1 x2 rr w nc ns Q := by
  unfold wp_La_edge wp_Br_edge wb_Br_edge_15
  exact ⟨q, rfl, h.1, nc, ns, Nat.le_refl _, Nat.le_refl _, fun _ => ⟨hc, hs, Or.inl ⟨rfl, hQ⟩⟩, fun h1 => ⟨h.1, e_size h (by decide) ⟨fun z => absurd z h1, fun _ => ⟨hc, hs, Or.inl ⟨rfl, hQ⟩⟩⟩⟩⟩
theorem eL_order (h : eC w q B) (hc : 1 ≤ nc) (hs : 6 ≤ ns) (hQ : Q 1 w) : wp_La_order e0 mi (some q) x1 rr w nc ns Q := by
  unfold wp_La_order wp_Br_order wb_Br_order_15
  exact ⟨q, rfl, h.1, nc, ns, Nat.le_refl _, Nat.le_refl _, fun _ => ⟨hc, hs, rfl, hQ⟩, fun h1 => ⟨h.1, e_size h (by decide) ⟨fun z => absurd z h1, fun _ => ⟨hc, hs, rfl, hQ⟩⟩⟩⟩
theorem eL_mean (h : eC w q B) (hc : 1 ≤ nc) (hs : 6 ≤ ns) (hQ : Q 1 w) : wp_La_mean e0 mi (some q) rr w nc ns Q := by
  unfold wp_La_mean wp_Br_mean
  exact ⟨q, rfl, h.1, nc, ns, Nat.le_refl _, Nat.le_refl _, h.1, e_size h (by decide) ⟨fun z => absurd rfl z, fun _ => ⟨hc, hs, rfl, hQ⟩⟩⟩
theorem eL_gaps (h : eC w q B) (hc : 1 ≤ nc) (hs : 6 ≤ ns) (h1 : ¬ rng x1 0 1000 → Q 1 w) (h0 : rng x1 0 1000 → ∀ w', FrC w w' → Q 0 w') : wp_La_gaps e0 mi (some q) x1 w nc ns Q := by
  unfold wp_La_gaps wp_Br_gaps
  exact ⟨q, rfl, h.1, nc, ns, Nat.le_refl _, Nat.le_refl _, nc, ns, Nat.le_refl _, Nat.le_refl _, ck_ok (fun z => ⟨hc, hs, rfl, h1 z⟩) (fun z => ⟨h.1, h0 z _ (FrC.rfl.sI h.1 (by unfold kM; omega))⟩)⟩
theorem eL_step (h : eC w q B) (hr : isRes w r) (hc : 1 ≤ nc) (hs : 6 ≤ ns) (h1 : ¬ rng x1 0 100 → Q 1 w) (h0 : rng x1 0 100 → ∀ w', FrC w w' → Q 0 (sJ w' r 0 0)) : wp_La_step e0 mi (some q) x1 (some r) w nc ns Q := by
  unfold wp_La_step wp_Br_step
  refine ⟨q, rfl, h.1, nc, ns, Nat.le_refl _, Nat.le_refl _, nc, ns, Nat.le_refl _, Nat.le_refl _, ck_ok (fun z => ⟨hc, hs, rfl, h1 z⟩) (fun z => ⟨h.1, e_size h (by decide) ?_⟩)⟩
  obtain ⟨j, hj, rfl⟩ := nI_of2 (M := 100) (n := 100) (by decide) z.1 (Int32.not_lt.mp z.2)
  exact ⟨j + 1, e_stepl (w0 := w) (fun w' hf => r_put (isRes_C hr hf) (h0 z w' hf)) j 0 j _ _ w (by omega) (by omega) h FrC.rfl⟩
theorem eL_belt (h : isC e0 w0 w q B) (hr : isRes w r) (hc : 6 ≤ nc) (hs : 37 ≤ ns) (h1 : ¬ (rng x1 1 10000 ∧ rng x2 0 1000) → Q 1 w) (h0 : rng x1 1 10000 ∧ rng x2 0 1000 → ∀ w', FrC w w' → Q 0 (sJ w' r 0 0)) : wp_La_belt e0 mi (some q) x1 x2 (some r) w nc ns Q := by
  unfold wp_La_belt wp_Br_belt
  have he := eC_of h
  refine ⟨q, rfl, h.1, nc, ns, Nat.le_refl _, Nat.le_refl _, 1, 6, by omega, by omega, ck_ok (fun z => ⟨by omega, by omega, Or.inl ⟨rfl, h1 (fun y => z y.1)⟩⟩) (fun z1 => ⟨1, 6, by omega, by omega, ck_ok (fun z => ⟨by omega, by omega, Or.inl ⟨rfl, h1 (fun y => z y.2)⟩⟩) (fun z2 => ⟨h.1, e_size he (by decide) ⟨fun _ => ⟨h.1, by omega, by omega, fun x hx w31 e31 => ⟨2, 6, by omega, by omega, ?_⟩⟩, fun z => absurd (by decide) z⟩⟩)⟩)⟩
  obtain ⟨g1, g2, g3, g4⟩ := h.2.2.2.2.1 0 (by decide)
  have K0 : Kp (fun b => False) w w31 := by rw [e31]; exact Kp.rfl.new hx
  have hx1 : bw_is w31 x 0 := by rw [e31]; exact bw_is_self _ x 0 0
  refine Bt_init_ok hx1 (by omega) (by omega) (fun w34 y z hy hz hyz hN K1 => ?_)
  have K2 : Kp (fun b => False) w w34 := ((K0.mono (fun _ _ z => z.elim)).trans K1).mono (fun b hb z => hx (z ▸ hb))
  have l1 : isL e0 w34 (B 0) [] := ⟨K2.is g2, by rw [K2.I g2.1 id, g3]; rfl, fun _ z => (by cases z), Or.inl ⟨rfl, by rw [K2.R g2.1 id, g4]⟩⟩
  refine ⟨B 0, g1, K2.is g2, 1, 10, by omega, by omega, isL_add_first l1 (by rw [K2.R g2.1 id, g4]) ⟨0, hN.1, by decide, by decide⟩ (by omega) (by omega) (fun p w' hp ew' => ?_)⟩
  have hp' : p ∉ wL w := fun z => hp (K2.L z)
  have K3 : Kp (fun b => b = B 0) w w' := by
    rw [ew']
    exact ((((((K2.mono (Y := fun b => b = B 0) (fun _ _ z => z.elim)).sI (fun _ => rfl)).new hp).sR (fun _ => rfl)).sR (fun z => absurd z hp')).sI (fun _ => rfl))
  have hf : FrC w w' := K3.frC (fun b _ z => by subst z; rw [g2.2]; unfold kM; omega)
  exact r_put (isRes_C hr hf) (h0 ⟨z1, z2⟩ w' hf)
end EL
end
section
/-! THE LAW'S CALLS OF A NEW OBJECT OF THE REFERENCE -/
/-- only ints have changed -/
def eqJ (w w' : Wd) : Prop := wL w' = wL w ∧ wK w' = wK w ∧ wR w' = wR w ∧ wJ w' = wJ w ∧ wN w' = wN w
theorem eqJ.rfl {w : Wd} : eqJ w w := ⟨Eq.refl _, Eq.refl _, Eq.refl _, Eq.refl _, Eq.refl _⟩
theorem eqJ.sI {w w' : Wd} (h : eqJ w w') (a k : Nat) (v : Int32) : eqJ w (sI w' a k v) := h
theorem eqJ.is {w w' : Wd} (h : eqJ w w') {a ci : Nat} (ha : bw_is w a ci) : bw_is w' a ci := ⟨by rw [h.1]; exact ha.1, by rw [h.2.1]; exact ha.2⟩
theorem eqJ.isM {w w' : Wd} (h : eqJ w w') {m : Nat} {A : Nat → Nat} (ha : isM w m A) : isM w' m A :=
  ⟨h.is ha.1, fun k hk => ⟨by rw [h.2.2.1]; exact (ha.2.1 k hk).1, h.is (ha.2.1 k hk).2.1, by rw [h.2.2.2.2]; exact (ha.2.1 k hk).2.2⟩, ha.2.2⟩
theorem mo_in {e0 mi : Nat} {x lo hi : Int32} {w : Wd} {Q : Int32 → Wd → Prop} (h1 : rng x lo hi → Q 1 w) (h0 : ¬ rng x lo hi → Q 0 w) : wp_Mo_in e0 mi x lo hi w Q := by
  unfold wp_Mo_in wb_Mo_in_14 wb_Mo_in_15
  exact ⟨fun z => ⟨Or.inl rfl, h0 (fun r => r.1 z)⟩, fun z => ⟨fun z2 => ⟨Or.inl rfl, h0 (fun r => r.2 z2)⟩, fun z2 => ⟨Or.inr rfl, h1 ⟨z, z2⟩⟩⟩⟩
theorem rng_no {x : Int32} : ¬ rng x 0 (0 - 1) := fun r => by
  have h1 := r.1
  have h2 := r.2
  rw [Int32.lt_iff_toInt_lt] at h1 h2
  have e1 : (0 - 1 : Int32).toInt = -1 := by decide
  have e2 : (0 : Int32).toInt = 0 := by decide
  omega
theorem rng_no1 {x : Int32} : ¬ rng x 1 0 := fun r => by
  have h1 := r.1
  have h2 := r.2
  rw [Int32.lt_iff_toInt_lt] at h1 h2
  have e1 : (1 : Int32).toInt = 1 := by decide
  have e2 : (0 : Int32).toInt = 0 := by decide
  omega
theorem cd_e (w : Wd) (m : Nat) (v : Int32) : wI (sI w m 0 v) m 0 = v := by rw [pI_I, if_pos ⟨rfl, rfl⟩]
theorem cd_o (w : Wd) (m : Nat) (v : Int32) {j : Nat} (h : j ≠ 0) : wI (sI w m 0 v) m j = wI w m j := by rw [pI_I, if_neg (fun z => h z.2)]
section EM
variable {e0 mi m : Nat} {x1 x2 x3 x4 : Int32} {w : Wd} {A : Nat → Nat}
theorem cd_1 (w : Wd) (m : Nat) : ¬ (wI (sI w m 0 1) m 0) ≤ 0 := by rw [cd_e]; decide
theorem cd_1e (w : Wd) (m : Nat) : ¬ (wI (sI w m 0 1) m 0) = 0 := by rw [cd_e]; decide
theorem m_nb {Q : Int32 → Wd → Prop} (hm : bw_is w m 6) (hb : wI w m 3 = 0) (hQ : Q 0 w) : wp_Mo_isBelt e0 mi m x1 w Q := by
  unfold wp_Mo_isBelt
  rw [hb]
  exact ⟨hm, mo_in (fun z => absurd z rng_no) (fun _ => ⟨Or.inl rfl, hQ⟩)⟩
theorem m_ni {Q : Int32 → Wd → Prop} (hm : bw_is w m 6) (hb : wI w m 12 = 0) (hQ : Q 0 w) : wp_Mo_isItem e0 mi m x1 w Q := by
  unfold wp_Mo_isItem
  rw [hb]
  exact ⟨hm, mo_in (fun z => absurd z rng_no1) (fun _ => ⟨Or.inl rfl, hQ⟩)⟩
theorem eM_join {Q : Int32 → Wd → Prop} (hm : bw_is w m 6) (hb : wI w m 3 = 0) (hQ : Q 0 (sI w m 0 1)) : wp_Mo_join e0 mi m x1 x2 x3 x4 w Q := by
  unfold wp_Mo_join wb_Mo_join_17 wb_Mo_join_51
  exact ⟨hm, m_nb hm hb ⟨fun _ => ⟨m, rfl, hm, hm, fun z => absurd z (cd_1 w m), fun _ => hQ⟩, fun z => absurd rfl z⟩⟩
theorem eM_run {Q : Wd → Prop} (hm : bw_is w m 6) (hb : wI w m 3 = 0) (hQ : Q (sI w m 0 1)) : wp_Mo_run e0 mi m x1 x2 x3 w Q := by
  unfold wp_Mo_run wb_Mo_run_29
  exact ⟨hm, m_nb hm hb ⟨fun z => absurd rfl z, fun _ => ⟨m, rfl, hm, hm, fun z => absurd z (cd_1 w m), fun _ => hQ⟩⟩⟩
theorem eM_scanner {Q : Int32 → Wd → Prop} (hm : bw_is w m 6) (hb : wI w m 3 = 0) (hQ : Q 0 (sI w m 0 1)) : wp_Mo_scanner e0 mi m x1 x2 x3 w Q := by
  unfold wp_Mo_scanner wb_Mo_scanner_68
  exact ⟨hm, m_nb hm hb ⟨fun z => absurd rfl z, fun _ => ⟨m, rfl, hm, hm, fun z => absurd z (cd_1 w m), fun _ => hQ⟩⟩⟩
theorem eM_item {Q : Int32 → Wd → Prop} (hm : bw_is w m 6) (hb : wI w m 3 = 0) (hQ : Q 0 (sI w m 0 1)) : wp_Mo_item e0 mi m x1 x2 w Q := by
  unfold wp_Mo_item wb_Mo_item_42
  exact ⟨hm, m_nb hm hb ⟨fun z => absurd rfl z, fun _ => ⟨m, rfl, hm, hm, fun z => absurd z (cd_1 w m), fun _ => hQ⟩⟩⟩
theorem eM_clean {Q : Int32 → Wd → Prop} (hm : bw_is w m 6) (hb : wI w m 3 = 0) (hQ : Q 0 (sI w m 0 1)) : wp_Mo_clean e0 mi m x1 w Q := by
  unfold wp_Mo_clean wb_Mo_clean_14 wb_Mo_clean_42
  exact ⟨hm, m_nb hm hb ⟨fun z => absurd rfl z, fun _ => ⟨m, rfl, hm, hm, fun _ => ⟨hm, fun z => absurd z (cd_1 w m), fun _ => hQ⟩, fun z => absurd z (cd_1e w m)⟩⟩⟩
theorem eM_known {Q : Int32 → Wd → Prop} (hm : bw_is w m 6) (hb : wI w m 3 = 0) (hQ : Q 0 (sI w m 0 1)) : wp_Mo_known e0 mi m x1 x2 w Q := by
  unfold wp_Mo_known wb_Mo_known_28
  exact ⟨hm, m_nb hm hb ⟨fun z => absurd rfl z, fun _ => ⟨m, rfl, hm, hm, fun z => absurd z (cd_1 w m), fun _ => hQ⟩⟩⟩
theorem eM_divert {Q : Int32 → Wd → Prop} (hm : bw_is w m 6) (hb : wI w m 12 = 0) (hQ : Q 0 (sI w m 0 1)) : wp_Mo_divert e0 mi m x1 x2 w Q := by
  unfold wp_Mo_divert wb_Mo_divert_27 wb_Mo_divert_55
  exact ⟨hm, m_ni hm hb ⟨fun z => absurd rfl z, fun _ => ⟨m, rfl, hm, hm, fun _ => ⟨hm, fun z => absurd z (cd_1 w m), fun _ => hQ⟩, fun z => absurd z (cd_1e w m)⟩⟩⟩
theorem eM_slip {Q : Int32 → Wd → Prop} (hm : bw_is w m 6) (hb : wI w m 12 = 0) (hQ : Q 0 (sI w m 0 1)) : wp_Mo_slip e0 mi m x1 x2 w Q := by
  unfold wp_Mo_slip wb_Mo_slip_29 wb_Mo_slip_67
  exact ⟨hm, m_ni hm hb ⟨fun z => absurd rfl z, fun _ => ⟨m, rfl, hm, hm, fun _ => ⟨hm, fun z => absurd z (cd_1 w m), fun _ => hQ⟩, fun z => absurd z (cd_1e w m)⟩⟩⟩
theorem eM_take {Q : Wd → Prop} (hm : bw_is w m 6) (hb : wI w m 12 = 0) (hQ : Q (sI w m 0 1)) : wp_Mo_take e0 mi m x1 w Q := by
  unfold wp_Mo_take wb_Mo_take_14 wb_Mo_take_42
  exact ⟨hm, m_ni hm hb ⟨fun z => absurd rfl z, fun _ => ⟨m, rfl, hm, hm, fun _ => ⟨hm, fun z => absurd z (cd_1 w m), fun _ => hQ⟩, fun z => absurd z (cd_1e w m)⟩⟩⟩
theorem eM_gap {Q : Int32 → Wd → Prop} (hm : bw_is w m 6) (hb : wI w m 12 = 0) (hQ : Q 0 (sI w m 0 1)) : wp_Mo_gap e0 mi m x1 x2 w Q := by
  unfold wp_Mo_gap wb_Mo_gap_17 wb_Mo_gap_22 wb_Mo_gap_79
  exact ⟨hm, m_ni hm hb ⟨fun _ => ⟨m, rfl, hm, hm, fun _ => ⟨hm, fun z => absurd z (cd_1 w m), fun _ => hQ⟩, fun z => absurd z (cd_1e w m)⟩, fun z => absurd rfl z⟩⟩
theorem eM_told {Q : Int32 → Wd → Prop} (hm : bw_is w m 6) (hb : wI w m 12 = 0) (hQ : Q 0 (sI w m 0 1)) : wp_Mo_told e0 mi m x1 x2 w Q := by
  unfold wp_Mo_told wb_Mo_told_28
  exact ⟨hm, m_ni hm hb ⟨fun z => absurd rfl z, fun _ => ⟨m, rfl, hm, hm, fun z => absurd z (cd_1 w m), fun _ => hQ⟩⟩⟩
theorem eM_order {Q : Int32 → Wd → Prop} (hm : bw_is w m 6) (hb : wI w m 29 = 0) (hQ : Q 0 (sI w m 0 1)) : wp_Mo_order e0 mi m x1 w Q := by
  unfold wp_Mo_order wb_Mo_order_20 wb_Mo_order_40
  rw [hb]
  exact ⟨hm, mo_in (fun z => absurd z rng_no) (fun _ => ⟨fun _ => ⟨m, rfl, hm, hm, fun z => absurd z (cd_1 w m), fun _ => hQ⟩, fun z => absurd rfl z⟩)⟩
theorem eM_edge {Q : Int32 → Wd → Prop} (hm : bw_is w m 6) (hb : wI w m 27 = 0) (hQ : Q 0 (sI w m 0 1)) : wp_Mo_edge e0 mi m x1 x2 w Q := by
  unfold wp_Mo_edge wb_Mo_edge_33
  rw [hb]
  exact ⟨hm, mo_in (fun z => absurd z rng_no) (fun _ => ⟨fun z => absurd rfl z, fun _ => ⟨m, rfl, hm, hm, fun z => absurd z (cd_1 w m), fun _ => hQ⟩⟩)⟩
theorem eM_mean {Q : Int32 → Wd → Prop} (hm : bw_is w m 6) (hb : wI w m 29 = 0) (hQ : Q 0 (sI w m 0 1)) : wp_Mo_mean e0 mi m w Q := by
  unfold wp_Mo_mean wb_Mo_mean_13 wb_Mo_mean_36
  exact ⟨hm, fun z => absurd hb z, fun _ => ⟨m, rfl, hm, hm, fun z => absurd z (cd_1 w m), fun _ => hQ⟩⟩
theorem eM_gaps {Q : Wd → Prop} (hm : bw_is w m 6) (h0 : rng x1 0 1000 → Q (sI (sI w m 0 0) m 2 x1)) (h1 : ¬ rng x1 0 1000 → Q (sI w m 0 1)) : wp_Mo_gaps e0 mi m x1 w Q := by
  unfold wp_Mo_gaps wb_Mo_gaps_17 wb_Mo_gaps_32
  exact mo_in (fun z => ⟨fun z => absurd z (by decide), fun _ => ⟨m, rfl, hm, hm, fun z => absurd (cd_e w m 0) z, fun _ => h0 z⟩⟩) (fun z => ⟨fun _ => ⟨m, rfl, hm, hm, fun _ => h1 z, fun z => absurd z (cd_1e w m)⟩, fun z => absurd rfl z⟩)
theorem eM_stepl {w0 : Wd} {Q : Int32 → Wd → Prop} (hQ : ∀ w', eqJ w0 w' → wI w' m 0 = 0 → Q 0 w') : ∀ (n j k : Nat) (w : Wd), j + n = k → k < 2 ^ 31 → bw_is w m 6 → wI w m 0 = 0 → wI w m 3 = 0 → wI w m 25 = 0 → wI w m 27 = 0 → eqJ w0 w → wb_Mo_step_35 e0 mi Q (n + 1) m (nI k) 0 (nI j) w
  | 0, j, k, w, hjk, hk, hm, h0, h3, h25, h27, he => by
    unfold wb_Mo_step_35
    refine ⟨fun _ => ⟨hm, ?_⟩, fun z => absurd (nI_le (by omega) (by omega)) z⟩
    rw [h27]
    exact hQ w he h0
  | n + 1, j, k, w, hjk, hk, hm, h0, h3, h25, h27, he => by
    unfold wb_Mo_step_35 wp_Mo_readDue
    refine ⟨fun z => absurd z (nI_ge (by omega) hk), fun _ => ⟨hm, 1, ?_⟩⟩
    unfold wb_Mo_readDue_4
    refine ⟨hm, fun _ => ⟨hm, fun i12 e12 => ⟨1, ?_⟩⟩, fun z => absurd (by rw [pI_I, if_neg (fun z => by simp at z), h25]; decide) z⟩
    have h3' : wI (sI (sI w m 1 (wI w m 1 + 1)) m 25 0) m 3 = 0 := by rw [pI_I, if_neg (fun z => by simp at z), pI_I, if_neg (fun z => by simp at z), h3]
    rw [h3'] at e12
    unfold wb_Mo_step_62
    refine ⟨fun _ => ⟨1, ?_⟩, fun z => absurd (by rw [e12]; decide) z⟩
    unfold wb_Mo_step_92
    refine ⟨hm, fun _ i3 e3 => ?_, fun z => absurd (by rw [h3']; decide) z⟩
    rw [e3, nI_1]
    refine eM_stepl hQ n (j + 1) k _ (by omega) hk hm ?_ h3' ?_ ?_ he
    · rw [pI_I, if_neg (fun z => by simp at z), pI_I, if_neg (fun z => by simp at z), h0]
    · rw [pI_I, if_pos ⟨rfl, rfl⟩]
    · rw [pI_I, if_neg (fun z => by simp at z), pI_I, if_neg (fun z => by simp at z), h27]
theorem eM_step {Q : Int32 → Wd → Prop} (hm : bw_is w m 6) (h3 : wI w m 3 = 0) (h25 : wI w m 25 = 0) (h27 : wI w m 27 = 0) (h0 : rng x1 0 100 → ∀ w', eqJ w w' → wI w' m 0 = 0 → Q 0 w') (h1 : ¬ rng x1 0 100 → Q 0 (sI w m 0 1)) : wp_Mo_step e0 mi m x1 w Q := by
  unfold wp_Mo_step wb_Mo_step_16
  refine mo_in (fun z => ⟨fun z => absurd z (by decide), fun _ => ⟨m, rfl, hm, hm, fun _ i5 e5 => ?_, fun z => absurd (by rw [cd_e]; decide) z⟩⟩) (fun z => ⟨fun _ => ⟨m, rfl, hm, hm, fun z => absurd z (cd_1 w m), fun _ => h1 z⟩, fun z => absurd rfl z⟩)
  rw [cd_o w m 0 (by decide), h27] at e5
  subst e5
  obtain ⟨j, hj, rfl⟩ := nI_of2 (M := 100) (n := 100) (by decide) z.1 (Int32.not_lt.mp z.2)
  exact ⟨j + 1, eM_stepl (w0 := w) (h0 z) j 0 j _ (by omega) (by omega) hm (cd_e w m 0) (by rw [cd_o w m 0 (by decide), h3]) (by rw [cd_o w m 0 (by decide), h25]) (by rw [cd_o w m 0 (by decide), h27]) (eqJ.rfl.sI _ _ _)⟩
end EM
end
section
/-! STORES OF THE REFERENCE -/
theorem isM_ne {w : Wd} {m : Nat} {A : Nat → Nat} (h : isM w m A) {k : Nat} (hk : 0 < mKd k) : A k ≠ m := fun z => by
  have e1 := (h.2.1 k hk).2.1.2
  rw [z, h.1.2] at e1
  have := mKd_hi hk
  omega
theorem isM_nn {w : Wd} {m : Nat} {A : Nat → Nat} (h : isM w m A) {j k : Nat} (hj : 0 < mKd j) (hk : 0 < mKd k) (hn : j ≠ k) : A j ≠ A k := fun z => hn (h.2.2 j k hj hk z)
theorem isM_st {w : Wd} {m : Nat} {A : Nat → Nat} (h : isM w m A) (a k : Nat) (v : Int32) : isM (sI w a k v) m A := h
/-- a number of the reference, behind a store into one of its arrays -/
theorem sc_a {w : Wd} {m : Nat} {A : Nat → Nat} (h : isM w m A) {k : Nat} (hk : 0 < mKd k) (i : Nat) (v : Int32) (s : Nat) : wI (sI w (A k) i v) m s = wI w m s := by
  rw [pI_I, if_neg (fun z => isM_ne h hk z.1.symm)]
theorem M_belt {e0 mi m b : Nat} {x1 x2 : Int32} {w : Wd} {A : Nat → Nat} {Q : Int32 → Wd → Prop} (hM : isM w m A) (hb : wI w m 3 = nI b) (hb8 : b ≤ 8)
    (h1 : ¬ (rng x1 1 10000 ∧ rng x2 0 1000) → Q 0 (sI w m 0 1)) (h2 : rng x1 1 10000 ∧ rng x2 0 1000 → b = 8 → Q 0 (sI w m 0 2))
    (h0 : rng x1 1 10000 ∧ rng x2 0 1000 → b < 8 → Q (nI b) (sI (sI (sI (sI (sI (sI (sI w m 0 0) (A 4) b x1) (A 5) b x2) (A 6) b 1) (A 7) (2 * b) (-1)) (A 7) (2 * b + 1) (-1)) m 3 (nI (b + 1)))) : wp_Mo_belt e0 mi m x1 x2 w Q := by
  have hm := hM.1
  have T : ∀ z, ¬ z ≤ (0 : Int32) → Q 0 (sI w m 0 z) → wb_Mo_belt_41 e0 mi Q m x1 x2 (some m) z w := fun z hz hq => by
    unfold wb_Mo_belt_41
    exact ⟨m, rfl, hm, hm, fun y => absurd y (by rw [cd_e]; exact hz), fun _ => hq⟩
  unfold wp_Mo_belt wb_Mo_belt_23
  refine mo_in (fun z1 => ⟨fun z => absurd z (by decide), fun _ => mo_in (fun z2 => ⟨fun _ => ⟨hm, fun z3 => ?_, fun z3 => ?_⟩, fun z => absurd z (by decide)⟩) (fun z2 => ⟨fun z => absurd rfl z, fun _ => T 1 (by decide) (h1 (fun y => z2 y.2))⟩)⟩) (fun z1 => ⟨fun _ => T 1 (by decide) (h1 (fun y => z1 y.1)), fun z => absurd rfl z⟩)
  · have hb7 : b < 8 := by
      rcases Nat.lt_or_eq_of_le hb8 with z | z
      · exact z
      · subst z; exact absurd hb z3
    unfold wb_Mo_belt_41
    refine ⟨m, rfl, hm, hm, fun _ => ?_, fun z => absurd (by rw [cd_e]; decide) z⟩
    have hq := h0 ⟨z1, z2⟩ hb7
    have cb : (nI b).toNatClampNeg = b := nI_clamp (by omega)
    have c2 : ((2 : Int32) * nI b).toNatClampNeg = 2 * b := by
      rw [show (2 : Int32) * nI b = nI (2 * b) from (Int32.ofNat_mul 2 b).symm]; exact nI_clamp (by omega)
    have c3 : ((2 : Int32) * nI b + 1).toNatClampNeg = 2 * b + 1 := by
      rw [show (2 : Int32) * nI b = nI (2 * b) from (Int32.ofNat_mul 2 b).symm, nI_1]; exact nI_clamp (by omega)
    have v2 : vp_in ((2 : Int32) * nI b) 16 := by
      rw [show (2 : Int32) * nI b = nI (2 * b) from (Int32.ofNat_mul 2 b).symm]; exact vp_in_nI (by omega) (by decide)
    have v3 : vp_in ((2 : Int32) * nI b + 1) 16 := by
      rw [show (2 : Int32) * nI b = nI (2 * b) from (Int32.ofNat_mul 2 b).symm, nI_1]; exact vp_in_nI (by omega) (by decide)
    have vb : vp_in (nI b) 8 := vp_in_nI hb7 (by decide)
    have nb1 : vp_nar .boolean (1 : Int32) = 1 := by rfl
    have M1 : isM (sI w m 0 0) m A := isM_st hM _ _ _
    have f1 : wI (sI w m 0 0) m 3 = nI b := by rw [cd_o w m 0 (by decide), hb]
    generalize sI w m 0 0 = u1 at hq M1 f1 ⊢
    rw [f1, cb]
    refine ⟨A 4, (M1.2.1 4 (by decide)).1, (M1.2.1 4 (by decide)).2.1, by rw [(M1.2.1 4 (by decide)).2.2]; exact vb, ?_⟩
    have M2 : isM (sI u1 (A 4) b x1) m A := isM_st M1 _ _ _
    have f2 : wI (sI u1 (A 4) b x1) m 3 = nI b := by rw [sc_a M1 (by decide), f1]
    generalize sI u1 (A 4) b x1 = u2 at hq M2 f2 ⊢
    rw [f2, cb]
    refine ⟨A 5, (M2.2.1 5 (by decide)).1, (M2.2.1 5 (by decide)).2.1, by rw [(M2.2.1 5 (by decide)).2.2]; exact vb, ?_⟩
    have M3 : isM (sI u2 (A 5) b x2) m A := isM_st M2 _ _ _
    have f3 : wI (sI u2 (A 5) b x2) m 3 = nI b := by rw [sc_a M2 (by decide), f2]
    generalize sI u2 (A 5) b x2 = u3 at hq M3 f3 ⊢
    rw [f3, cb, nb1]
    refine ⟨A 6, (M3.2.1 6 (by decide)).1, (M3.2.1 6 (by decide)).2.1, by rw [(M3.2.1 6 (by decide)).2.2]; exact vb, ?_⟩
    have M4 : isM (sI u3 (A 6) b 1) m A := isM_st M3 _ _ _
    have f4 : wI (sI u3 (A 6) b 1) m 3 = nI b := by rw [sc_a M3 (by decide), f3]
    generalize sI u3 (A 6) b 1 = u4 at hq M4 f4 ⊢
    rw [f4, c2]
    refine ⟨A 7, (M4.2.1 7 (by decide)).1, (M4.2.1 7 (by decide)).2.1, by rw [(M4.2.1 7 (by decide)).2.2]; exact v2, ?_⟩
    have M5 : isM (sI u4 (A 7) (2 * b) (-1)) m A := isM_st M4 _ _ _
    have f5 : wI (sI u4 (A 7) (2 * b) (-1)) m 3 = nI b := by rw [sc_a M4 (by decide), f4]
    generalize sI u4 (A 7) (2 * b) (-1) = u5 at hq M5 f5 ⊢
    rw [f5, c3]
    refine ⟨A 7, (M5.2.1 7 (by decide)).1, (M5.2.1 7 (by decide)).2.1, by rw [(M5.2.1 7 (by decide)).2.2]; exact v3, ?_⟩
    have f6 : wI (sI u5 (A 7) (2 * b + 1) (-1)) m 3 = nI b := by rw [sc_a M5 (by decide), f5]
    generalize sI u5 (A 7) (2 * b + 1) (-1) = u6 at hq f6 ⊢
    rw [f6, nI_1, pI_I, if_pos ⟨rfl, rfl⟩, nI_pred]
    exact hq
  · have e8 : b = 8 := (nI_eq (by omega) (by decide)).mp (hb.symm.trans z3)
    exact T 2 (by decide) (h2 ⟨z1, z2⟩ e8)
/-! COUNT, OF NEW OBJECTS -/
theorem ct_cl {e0 mi q : Nat} {x1 : Int32} {w : Wd} {B : Nat → Nat} {Q : Int32 → Wd → Prop} (h : eC w q B) (h7 : wI w q 7 = 0) (h0 : ¬ (x1.toInt < 0 ∨ 7 < x1.toInt) → Q 0 w) (h1 : (x1.toInt < 0 ∨ 7 < x1.toInt) → Q (-1) w) : wp_Br_count e0 mi q x1 w Q := by
  unfold wp_Br_count wp_Br_itemsOnBelts
  refine ⟨fun z => ⟨h.1, e_size h (by decide) (h0 (by subst z; decide))⟩, fun z => ⟨h.1, e_size h (by decide) (h0 (by subst z; decide))⟩, fun z => ⟨h.1, 1, ?_⟩, fun z => ⟨h.1, e_size h (by decide) (h0 (by subst z; decide))⟩, fun z => ⟨h.1, e_size h (by decide) (h0 (by subst z; decide))⟩, fun z => ⟨h.1, ?_⟩, fun z => ⟨h.1, e_size h (by decide) (h0 (by subst z; decide))⟩, fun z => ⟨h.1, e_size h (by decide) (h0 (by subst z; decide))⟩, h1⟩
  · unfold wb_Br_itemsOnBelts_4
    exact ⟨h.1, e_size h (by decide) ⟨fun _ => h0 (by subst z; decide), fun y => absurd (by decide) y⟩⟩
  · rw [h7]; exact h0 (by subst z; decide)
theorem ct_mo {e0 mi m : Nat} {x1 : Int32} {w : Wd} {Q : Int32 → Wd → Prop} (hm : bw_is w m 6) (hz : ∀ j, j ≠ 2 → wI w m j = 0) (h0 : ¬ (x1.toInt < 0 ∨ 7 < x1.toInt) → Q 0 (sI w m 0 0)) (h1 : (x1.toInt < 0 ∨ 7 < x1.toInt) → Q (-1) (sI w m 0 0)) : wp_Mo_count e0 mi m x1 w Q := by
  have hz' : ∀ j, j ≠ 2 → wI (sI w m 0 0) m j = 0 := fun j hj => by
    rw [pI_I]
    by_cases h : j = 0
    · rw [if_pos ⟨rfl, h⟩]
    · rw [if_neg (fun z => h z.2)]; exact hz j hj
  have M1 : bw_is (sI w m 0 0) m 6 := hm
  unfold wp_Mo_count
  generalize sI w m 0 0 = u at h0 h1 hz' M1 ⊢
  rw [hz' 25 (by decide), hz' 21 (by decide), hz' 1 (by decide), hz' 27 (by decide), hz' 29 (by decide), hz' 12 (by decide), hz' 3 (by decide)]
  refine ⟨hm, fun n0 => ⟨fun n1 => ⟨fun n3 => ⟨fun n4 => ⟨fun n5 => ⟨fun n6 => ⟨fun n7 => ⟨1, ?_⟩, fun z => ?_⟩, fun z => ?_⟩, fun z => ?_⟩, fun z => ?_⟩, fun z => ?_⟩, fun z => ?_⟩, fun z => ?_⟩
  · unfold wb_Mo_count_80 wb_Mo_count_113
    refine ⟨M1, fun _ => ⟨fun n2 => h1 ?_, fun z => h0 (by subst z; decide)⟩, fun y => absurd (by rw [hz' 3 (by decide)]; decide) y⟩
    apply Decidable.byContradiction
    intro hn
    have e : ∀ (k : Int), x1.toInt = k → ∀ c : Int32, c.toInt = k → x1 = c := fun k h c hc => Int32.toInt_inj.mp (h.trans hc.symm)
    have hr : x1.toInt = 0 ∨ x1.toInt = 1 ∨ x1.toInt = 2 ∨ x1.toInt = 3 ∨ x1.toInt = 4 ∨ x1.toInt = 5 ∨ x1.toInt = 6 ∨ x1.toInt = 7 := by omega
    rcases hr with z | z | z | z | z | z | z | z
    · exact n0 (e _ z 0 (by decide))
    · exact n1 (e _ z 1 (by decide))
    · exact n2 (e _ z 2 (by decide))
    · exact n3 (e _ z 3 (by decide))
    · exact n4 (e _ z 4 (by decide))
    · exact n5 (e _ z 5 (by decide))
    · exact n6 (e _ z 6 (by decide))
    · exact n7 (e _ z 7 (by decide))
  all_goals exact h0 (by subst z; decide)
end
section
/-! LISTS, WITH THEIR ROOM: n is how long the list ever was -/
theorem nI_sr {n : Nat} (h : n < 2 ^ 31) : nI n >>> ((1 : Int32) &&& 31) = nI (n / 2) := by
  apply Int32.toInt_inj.mp
  rw [nI_toInt (by omega), show ((1 : Int32) &&& 31) = 1 by decide, ← Int32.toInt_toBitVec, Int32.toBitVec_shiftRight, show ((1 : Int32).toBitVec.smod 32) = 1#32 by decide, BitVec.toInt_sshiftRight', Int32.toInt_toBitVec, nI_toInt h, Int.shiftRight_eq_div_pow]
  rw [show (1#32).toNat = 1 by decide]
  omega
def cap : Nat → Nat
  | 0 => 0
  | n + 1 => if n < cap n then cap n else (if n = 0 then 10 else n + n / 2)
theorem cap_facts : ∀ n, n ≤ cap n ∧ cap n ≤ 10 + 2 * n ∧ (0 < n → 10 ≤ cap n)
  | 0 => by simp [cap]
  | n + 1 => by
    obtain ⟨h1, h2, h3⟩ := cap_facts n
    unfold cap
    by_cases h : n < cap n
    · rw [if_pos h]
      refine ⟨h, by omega, fun _ => ?_⟩
      rcases Nat.eq_zero_or_pos n with z | z
      · subst z; simp [cap] at h
      · exact h3 z
    · rw [if_neg h]
      rcases Nat.eq_zero_or_pos n with z | z
      · subst z; simp
      · rw [if_neg (by omega)]
        have := h3 z
        omega
theorem cap_le (n : Nat) : n ≤ cap n := (cap_facts n).1
theorem cap_same {l n : Nat} (h : l < cap n) (hl : l ≤ n) : cap (max n (l + 1)) = cap n := by
  rcases Nat.lt_or_eq_of_le hl with z | z
  · rw [Nat.max_eq_left (by omega)]
  · subst z
    rw [Nat.max_eq_right (by omega)]
    conv => lhs; unfold cap
    rw [if_pos h]
theorem cap_grow {l n : Nat} (h : l = cap n) (hl : l ≤ n) : l = n ∧ cap (max n (l + 1)) = if n = 0 then 10 else n + n / 2 := by
  have h1 := cap_le n
  have e : l = n := by omega
  refine ⟨e, ?_⟩
  subst e
  rw [Nat.max_eq_right (by omega)]
  conv => lhs; unfold cap
  rw [if_neg (by omega)]
def gC (l n : Nat) : Nat := if l = cap n then 1 else 0
def gS (l n : Nat) : Nat := if l = cap n then cap (max n (l + 1)) else 0
/-- the list at a holds xs, its row of places is d, it was never longer than n -/
def isK (e0 : Nat) (w : Wd) (a d n : Nat) (xs : List Nat) : Prop :=
  bw_is w a 7 ∧ wI w a 2 = nI xs.length ∧ xs.length ≤ n ∧ n ≤ 10000 ∧ (∀ x ∈ xs, ∃ cn, bw_is w x cn ∧ cn < 6 ∧ cn ≠ 5) ∧
  (n = 0 → wR w a 1 = some e0) ∧ (0 < n → wR w a 1 = some d ∧ bw_is w d 100 ∧ wN w d = cap n ∧ ∀ i, i < xs.length → wR w d i = xs[i]?)
theorem isK_L {e0 : Nat} {w : Wd} {a d n : Nat} {xs : List Nat} (h : isK e0 w a d n xs) : isL e0 w a xs := by
  obtain ⟨h1, h2, h3, h4, h5, h6, h7⟩ := h
  refine ⟨h1, h2, h5, ?_⟩
  rcases Nat.eq_zero_or_pos n with z | z
  · exact Or.inl ⟨List.length_eq_zero_iff.mp (by omega), h6 z⟩
  · obtain ⟨g1, g2, g3, g4⟩ := h7 z
    have := cap_facts n
    exact Or.inr ⟨d, g1, g2, by rw [g3]; omega, by rw [g3]; exact this.2.2 z, by rw [g3]; omega, g4⟩
/-- a world in which the list's own cells and its elements are as before -/
theorem isK_kp {e0 : Nat} {w w' : Wd} {a d n : Nat} {xs : List Nat} {X : Nat → Prop} (h : isK e0 w a d n xs) (hk : Kp X w w') (ha : ¬ X a) (hd : 0 < n → ¬ X d) : isK e0 w' a d n xs := by
  obtain ⟨h1, h2, h3, h4, h5, h6, h7⟩ := h
  refine ⟨hk.is h1, by rw [hk.I h1.1 ha]; exact h2, h3, h4, fun x hx => ?_, fun z => by rw [hk.R h1.1 ha]; exact h6 z, fun z => ?_⟩
  · obtain ⟨cn, k1, k2⟩ := h5 x hx
    exact ⟨cn, hk.is k1, k2⟩
  · obtain ⟨g1, g2, g3, g4⟩ := h7 z
    exact ⟨by rw [hk.R h1.1 ha]; exact g1, hk.is g2, by rw [hk.N g2.1]; exact g3, fun i hi => by rw [hk.R g2.1 (hd z)]; exact g4 i hi⟩
theorem isK_size {e0 mi a d n : Nat} {w : Wd} {xs : List Nat} {Q : Int32 → Wd → Prop} (hl : isK e0 w a d n xs) (h : Q (nI xs.length) w) : wp_Al_size e0 mi a w Q := isL_size (isK_L hl) h
theorem isK_get {e0 mi a d n i x : Nat} {w : Wd} {xs : List Nat} {Q : Option Nat → Wd → Prop} (hl : isK e0 w a d n xs) (hx : xs[i]? = some x) (h : Q (some x) w) : wp_Al_get e0 mi a (nI i) w Q := isL_get (isK_L hl) hx h
/-- what add leaves behind -/
theorem isK_added {e0 a x d d' n N : Nat} {w w1 : Wd} {xs : List Nat} (hl : isK e0 w a d n xs) (hx : ∃ cn, bw_is w x cn ∧ cn < 6 ∧ cn ≠ 5) (hN : N = max n (xs.length + 1)) (hN4 : N ≤ 10000)
    (ha : bw_is w1 a 7) (hR : wR w1 a 1 = some d') (hd' : bw_is w1 d' 100) (hcap : wN w1 d' = cap N) (hold : ∀ i, i < xs.length → wR w1 d' i = xs[i]?)
    (hk : ∀ b, b ∈ wL w → b ∈ wL w1 ∧ wK w1 b = wK w b) : isK e0 (sI (sR w1 d' xs.length (some x)) a 2 (nI (xs.length + 1))) a d' N (xs ++ [x]) := by
  obtain ⟨h1, h2, h3, h4, h5, h6, h7⟩ := hl
  have hda : a ≠ d' := is_ne ha hd' (by decide)
  refine ⟨ha, ?_, by simp; omega, hN4, fun y hy => ?_, fun z => (by omega), fun _ => ⟨?_, hd', hcap, fun i hi => ?_⟩⟩
  · rw [pI_I, if_pos ⟨rfl, rfl⟩]; simp
  · have : ∃ cn, bw_is w y cn ∧ cn < 6 ∧ cn ≠ 5 := by
      rcases List.mem_append.mp hy with z | z
      · exact h5 y z
      · rw [List.mem_singleton.mp z]; exact hx
    obtain ⟨cn, k1, k2⟩ := this
    exact ⟨cn, ⟨(hk y k1.1).1, (hk y k1.1).2.trans k1.2⟩, k2⟩
  · rw [pR_I, pR_R, if_neg (fun z => hda z.1)]; exact hR
  · rw [pR_I, pR_R]
    by_cases hi2 : i = xs.length
    · rw [if_pos ⟨rfl, hi2⟩, hi2]; simp
    · have hi3 : i < xs.length := by simp at hi; omega
      rw [if_neg (fun z => hi2 z.2), hold i hi3, List.getElem?_append_left hi3]
/-- add -/
theorem isK_add {e0 mi a d n x nc ns : Nat} {w : Wd} {xs : List Nat} {Q : Int32 → Wd → Prop} (hl : isK e0 w a d n xs) (hx : ∃ cn, bw_is w x cn ∧ cn < 6 ∧ cn ≠ 5) (hn : xs.length < 5000) (hnc : gC xs.length n ≤ nc) (hns : gS xs.length n ≤ ns)
    (h : ∀ w' d', isK e0 w' a d' (max n (xs.length + 1)) (xs ++ [x]) → (d' = d ∧ 0 < n ∨ d' ∉ wL w) → Kp (fun b => b = a ∨ (0 < n ∧ b = d)) w w' → Q 1 w') : wp_Al_add e0 mi a (some x) w nc ns Q := by
  have hlK := hl
  have hL := isK_L hl
  obtain ⟨h1, h2, h3, h4, h5, h6, h7⟩ := hl
  have hN4 : max n (xs.length + 1) ≤ 10000 := by omega
  have i0 : ∀ v, wI (sI w a 0 v) a 2 = nI xs.length := fun v => by rw [pI_I, if_neg (fun z => by simp at z), h2]
  by_cases hg : xs.length = cap n
  · obtain ⟨en, hcap⟩ := cap_grow hg h3
    unfold gC at hnc; rw [if_pos hg] at hnc
    unfold gS at hns; rw [if_pos hg, hcap] at hns
    rcases Nat.eq_zero_or_pos n with z | z
    · have xs0 : xs = [] := List.length_eq_zero_iff.mp (by omega)
      subst xs0
      rw [if_pos z] at hns
      refine isL_add_first hL (h6 z) hx hnc hns (fun q w' hq ew => ?_)
      have hqa : a ≠ q := fun y => hq (y ▸ h1.1)
      refine h w' q ?_ (Or.inr hq) ?_
      · rw [ew]
        have := isK_added (N := max n 1) (d' := q) (w1 := sR (bw_new (sI w a 0 (wI w a 0 + 1)) q 100 10) a 1 (some q)) hlK hx rfl (by omega) (bw_is_new (n := 10) hq h1) (by rw [pR_R, if_pos ⟨rfl, rfl⟩]) (bw_is_self _ q 100 10) (by rw [pN_R, pN_N, if_pos rfl]; rw [show max n 1 = max n (([] : List Nat).length + 1) from rfl, hcap, if_pos z]) (fun i hi => by simp at hi) (fun b hb => ⟨List.mem_append_left _ hb, by rw [pK_R, pK_N, if_neg (show b ≠ q from fun y => hq (by rw [← y]; exact hb))]; rfl⟩)
        exact this
      · rw [ew]
        exact (((((Kp.rfl (X := fun b => b = a ∨ (0 < n ∧ b = d))).sI (fun _ => Or.inl rfl)).new hq).sR (fun _ => Or.inl rfl)).sR (fun y => absurd y hq)).sI (fun _ => Or.inl rfl)
    · obtain ⟨g1, g2, g3, g4⟩ := h7 z
      rw [if_neg (by omega)] at hns
      have hcf := cap_facts n
      have n10 : 10 ≤ n := by have := hcf.2.2 z; omega
      have g3' : wN w d = n := by rw [g3]; omega
      unfold wp_Al_add wp_Al_add2
      have r0 : ∀ v, wR (sI w a 0 v) a 1 = some d := fun v => by rw [pR_I]; exact g1
      refine ⟨h1, nc, ns, Nat.le_refl _, Nat.le_refl _, n, Or.inr ⟨d, r0 _, g2, g3'.symm⟩, fun y => absurd (by rw [i0, en]) y, fun _ => ⟨h1, nc, ns, Nat.le_refl _, Nat.le_refl _, ?_⟩⟩
      unfold wp_Al_grow wp_Al_grow2
      refine ⟨h1, nc, ns, Nat.le_refl _, Nat.le_refl _, h1, n, Or.inr ⟨d, r0 _, g2, g3'.symm⟩, fun i4 e4 => ?_⟩
      have hi4 : 0 < i4 := by rw [e4]; exact nI_lt (a := 0) z (by omega)
      refine ⟨fun _ => ?_, fun y => absurd hi4 y⟩
      unfold wb_Al_grow2_20 wp_Au_newLength
      refine ⟨0, 0, Nat.zero_le _, Nat.zero_le _, fun i1 e1 i2 e2 => ?_⟩
      have hd1 : i1 = nI (n / 2) := by
        rw [e1, e4, nI_sr (by omega), i0, en]
        have : (nI n + 1 - nI n) = nI 1 := by rw [Int32.add_comm, Int32.add_sub_cancel]; rfl
        rw [this, if_pos (nI_lt (by omega) (by omega))]
      have hd2 : i2 = nI (n + n / 2) := by rw [e2, e4, hd1, nI_add]
      have hb1 : ¬ i2 ≤ 0 := by rw [hd2]; exact nI_nle (by omega) (by omega)
      have hb2 : ¬ (2147483639 : Int32) < i2 := by rw [hd2]; exact nI_nlt (a := 2147483639) (b := n + n / 2) (by omega) (by decide)
      refine ⟨fun y => absurd y hb1, fun _ => ⟨fun y => absurd y hb2, fun _ => ⟨h1, nc, ns, Nat.le_refl _, Nat.le_refl _, ?_⟩⟩⟩
      have cN : i2.toNatClampNeg = n + n / 2 := by rw [hd2]; exact nI_clamp (by omega)
      have cn : (nI n).toNatClampNeg = n := nI_clamp (by omega)
      have c0 : (0 : Int32).toNatClampNeg = 0 := by decide
      have M0 : bw_is (sI w a 0 (wI w a 0 + 1)) a 7 := h1
      have M1 : bw_is (sI w a 0 (wI w a 0 + 1)) d 100 := g2
      have M2 : wN (sI w a 0 (wI w a 0 + 1)) d = n := g3'
      have M3 : wR (sI w a 0 (wI w a 0 + 1)) d = wR w d := rfl
      have M4 : Kp (fun b => b = a ∨ (0 < n ∧ b = d)) w (sI w a 0 (wI w a 0 + 1)) := Kp.rfl.sI (fun _ => Or.inl rfl)
      have M5 := r0 (wI w a 0 + 1)
      rw [i0, en]
      have hLL : wL (sI w a 0 (wI w a 0 + 1)) = wL w := rfl
      generalize sI w a 0 (wI w a 0 + 1) = u at M0 M1 M2 M3 M4 M5 hLL ⊢
      unfold wp_As_copyOf wp_As_copyOf2
      refine ⟨d, M5, M1, nc, ns, Nat.le_refl _, Nat.le_refl _, fun y => absurd rfl y, fun _ => ⟨by rw [hd2]; exact nI_pos (by omega), by rw [cN]; omega, hnc, by rw [cN]; exact hns, fun p hp w8 e8 => ?_⟩⟩
      rw [cN] at e8
      have P1 : bw_is w8 a 7 := by rw [e8]; exact bw_is_new (n := n + n / 2) hp M0
      have P2 : bw_is w8 d 100 := by rw [e8]; exact bw_is_new (n := n + n / 2) hp M1
      have P3 : bw_is w8 p 100 := by rw [e8]; exact bw_is_self _ p 100 _
      have hpd : d ≠ p := fun y => hp (by rw [← y]; exact M1.1)
      have hpa : a ≠ p := fun y => hp (by rw [← y]; exact M0.1)
      have P4 : wN w8 d = n := by rw [e8, pN_N, if_neg hpd]; exact M2
      have P5 : wN w8 p = n + n / 2 := by rw [e8, pN_N, if_pos rfl]
      have P6 : wR w8 d = wR w d := by funext j; rw [e8, pR_N, if_neg hpd, M3]
      have P7 : Kp (fun b => b = a ∨ (0 < n ∧ b = d)) w w8 := by rw [e8]; exact M4.new hp
      have hpw : p ∉ wL w := by rw [← hLL]; exact hp
      refine ⟨n, Or.inr ⟨d, M5, P2, P4.symm⟩, fun i12 e12 => ?_⟩
      have hi12 : i12 = nI n := by rw [e12, if_neg (by rw [hd2]; exact nI_nlt (by omega) (by omega))]
      subst hi12
      rw [cn, c0]
      refine ⟨d, M5, P2, by decide, by decide, nI_pos (by omega), by omega, by omega, fun i21 hi21 => ?_, ?_⟩
      · intro b hb
        rw [P6, Nat.zero_add, g4 i21 (by omega)] at hb
        obtain ⟨c, k1, k2⟩ := h5 b (List.mem_of_getElem? hb)
        exact ⟨c, P7.is k1, k2⟩
      · have F1 : bw_is (sR (sRow w8 p (va_cpy (wR w8 d) (wR w8 p) 0 0 n)) a 1 (some p)) a 7 := P1
        have F2 : bw_is (sR (sRow w8 p (va_cpy (wR w8 d) (wR w8 p) 0 0 n)) a 1 (some p)) p 100 := P3
        have F3 : wN (sR (sRow w8 p (va_cpy (wR w8 d) (wR w8 p) 0 0 n)) a 1 (some p)) p = n + n / 2 := P5
        have F4 : Kp (fun b => b = a ∨ (0 < n ∧ b = d)) w (sR (sRow w8 p (va_cpy (wR w8 d) (wR w8 p) 0 0 n)) a 1 (some p)) := (P7.sRow (fun y => absurd y hpw)).sR (fun _ => Or.inl rfl)
        have F5 : wR (sR (sRow w8 p (va_cpy (wR w8 d) (wR w8 p) 0 0 n)) a 1 (some p)) a 1 = some p := by rw [pR_R, if_pos ⟨rfl, rfl⟩]
        have F6 : ∀ i, i < n → wR (sR (sRow w8 p (va_cpy (wR w8 d) (wR w8 p) 0 0 n)) a 1 (some p)) p i = xs[i]? := fun i hi => by
          rw [pR_R, if_neg (fun y => hpa y.1.symm), pR_row, if_pos rfl]
          unfold va_cpy
          rw [if_pos ⟨Nat.zero_le _, by omega⟩, P6, show 0 + (i - 0) = i by omega]
          exact g4 i (by omega)
        refine ⟨P1, add2_11 (d := p) F1 ?_ F2 (by rw [F3]; omega) (by rw [F3]; omega) ?_⟩
        · obtain ⟨c, k1, k2⟩ := hx
          exact ⟨c, F4.is k1, k2⟩
        · have E1 := isK_added (d' := p) hlK hx rfl hN4 F1 F5 F2 (by rw [F3, hcap, if_neg (by omega)]) (fun i hi => F6 i (by omega)) (fun b hb => ⟨F4.L hb, F4.K hb⟩)
          rw [en] at E1 h
          exact h _ p E1 (Or.inr hpw) ((F4.sR (fun y => absurd y hpw)).sI (fun _ => Or.inl rfl))
  · unfold gC at hnc
    have hlt : xs.length < cap n := by have := cap_le n; omega
    have z : 0 < n := by
      rcases Nat.eq_zero_or_pos n with y | y
      · subst y; simp [cap] at hlt
      · exact y
    obtain ⟨g1, g2, g3, g4⟩ := h7 z
    have hda : a ≠ d := is_ne h1 g2 (by decide)
    unfold wp_Al_add wp_Al_add2
    have r0 : ∀ v, wR (sI w a 0 v) a 1 = some d := fun v => by rw [pR_I]; exact g1
    have hcf := cap_facts n
    refine ⟨h1, 0, 0, Nat.zero_le _, Nat.zero_le _, cap n, Or.inr ⟨d, r0 _, g2, g3.symm⟩, fun _ => ?_, fun y => absurd (by rw [i0] at y; exact (nI_eq (by omega) (by omega)).mp y) hg⟩
    rw [i0, r0]
    refine add2_11 h1 hx g2 (show xs.length < wN w d by rw [g3]; exact hlt) (show wN w d ≤ 40000 by rw [g3]; omega) ?_
    refine h _ d ?_ (Or.inl ⟨rfl, z⟩) ?_
    · exact isK_added (w1 := sI w a 0 (wI w a 0 + 1)) hlK hx rfl hN4 h1 (r0 _) g2 (by rw [cap_same hlt h3]; exact g3) (fun i hi => by rw [pR_I]; exact g4 i hi) (fun b hb => ⟨hb, rfl⟩)
    · exact (((Kp.rfl (X := fun b => b = a ∨ (0 < n ∧ b = d))).sI (fun _ => Or.inl rfl)).sR (fun _ => Or.inr ⟨z, rfl⟩)).sI (fun _ => Or.inl rfl)
/-- set -/
theorem isK_set {e0 mi a d n i x y : Nat} {w : Wd} {xs : List Nat} {Q : Option Nat → Wd → Prop} (hl : isK e0 w a d n xs) (hx : ∃ cn, bw_is w x cn ∧ cn < 6 ∧ cn ≠ 5) (hi : xs[i]? = some y)
    (h : ∀ w', isK e0 w' a d n (xs.set i x) → Kp (fun b => b = d) w w' → wL w' = wL w → Q (some y) w') : wp_Al_set e0 mi a (nI i) (some x) w Q := by
  have hlt : i < xs.length := (List.getElem?_eq_some_iff.mp hi).1
  have hlK := hl
  obtain ⟨h1, h2, h3, h4, h5, h6, h7⟩ := hl
  have hn : 0 < n := by omega
  obtain ⟨g1, g2, g3, g4⟩ := h7 hn
  have hcf := cap_facts n
  have hda : a ≠ d := is_ne h1 g2 (by decide)
  have hin : vp_in (nI i) (wN w d) := vp_in_nI (by omega) (by omega)
  unfold wp_Al_set wp_Ob_checkIndex wp_Pr_checkIndex wp_Al_elementData
  refine ⟨h1, fun z => absurd z (nI_pos (by omega)), fun _ => ⟨fun _ => ⟨h1, h1, d, g1, g2, hin, ?_⟩, fun z => absurd (by rw [h2]; exact nI_lt hlt (by omega)) z⟩⟩
  rw [nI_clamp (by omega), g4 i hlt, hi]
  refine ⟨h1, d, g1, g2, hin, fun b hb => (by cases hb; exact hx), h _ ⟨h1, ?_, by simp; exact h3, h4, fun z hz => ?_, fun z => (by omega), fun _ => ⟨?_, g2, g3, fun j hj => ?_⟩⟩ (Kp.rfl.sR (fun _ => rfl)) rfl⟩
  · rw [pI_R, h2]; simp
  · rcases List.mem_or_eq_of_mem_set hz with q | q
    · exact h5 z q
    · rw [q]; exact hx
  · rw [pR_R, if_neg (fun z => hda z.1)]; exact g1
  · rw [pR_R]
    by_cases hj2 : j = i
    · rw [if_pos ⟨rfl, hj2⟩, hj2, List.getElem?_set_self hlt]
    · rw [if_neg (fun z => hj2 z.2), List.getElem?_set_ne (Ne.symm hj2)]
      exact g4 j (by simp at hj; exact hj)
/-- remove, the last one -/
theorem isK_pop {e0 mi a d n x : Nat} {w : Wd} {xs : List Nat} {Q : Option Nat → Wd → Prop} (hl : isK e0 w a d n (xs ++ [x]))
    (h : ∀ w', isK e0 w' a d n xs → Kp (fun b => b = a ∨ b = d) w w' → wL w' = wL w → Q (some x) w') : wp_Al_remove e0 mi a (nI xs.length) w Q := by
  have hlK := hl
  obtain ⟨h1, h2, h3, h4, h5, h6, h7⟩ := hl
  have hlen : (xs ++ [x]).length = xs.length + 1 := by simp
  rw [hlen] at h2 h3 h7
  have hn : 0 < n := by omega
  obtain ⟨g1, g2, g3, g4⟩ := h7 hn
  have hcf := cap_facts n
  have hda : a ≠ d := is_ne h1 g2 (by decide)
  have hin : vp_in (nI xs.length) (wN w d) := vp_in_nI (by omega) (by omega)
  unfold wp_Al_remove wp_Ob_checkIndex wp_Pr_checkIndex wp_Al_fastRemove wb_Al_fastRemove_34
  refine ⟨h1, fun z => absurd z (nI_pos (by omega)), fun _ => ⟨fun _ => ⟨h1, fun r10 e10 => ⟨d, by rw [e10]; exact g1, g2, hin, fun r14 e14 => ⟨h1, fun i2 ei2 => ?_⟩⟩⟩, fun z => absurd (by rw [h2]; exact nI_lt (by omega) (by omega)) z⟩⟩
  have e0' : wI (sI w a 0 (wI w a 0 + 1)) a 2 - 1 = nI xs.length := by rw [pI_I, if_neg (fun z => by simp at z), h2, nI_pred]
  rw [e0'] at ei2 ⊢
  subst ei2
  refine ⟨fun _ => ⟨h1, d, by rw [e10]; exact g1, g2, hin, fun b hb => (by cases hb), ?_⟩, fun z => absurd (nI_le (Nat.le_refl _) (by omega)) z⟩
  have ex : r14 = some x := by rw [e14, nI_clamp (by omega), g4 _ (by omega)]; simp
  rw [ex, nI_clamp (by omega)]
  refine h _ ⟨h1, ?_, by omega, h4, fun z hz => h5 z (List.mem_append_left _ hz), fun z => (by omega), fun _ => ⟨?_, g2, g3, fun j hj => ?_⟩⟩ (((Kp.rfl (X := fun b => b = a ∨ b = d)).sI (fun _ => Or.inl rfl)).sI (fun _ => Or.inl rfl) |>.sR (fun _ => Or.inr rfl)) rfl
  · rw [pI_R, pI_I, if_pos ⟨rfl, rfl⟩]
  · rw [pR_R, if_neg (fun z => hda z.1), pR_I, pR_I]; exact g1
  · rw [pR_R, if_neg (fun z => by omega), pR_I, pR_I, g4 j (by omega), List.getElem?_append_left hj]
end
