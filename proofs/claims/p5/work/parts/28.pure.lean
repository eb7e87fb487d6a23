/-! THE PURE SIDE: reads of written worlds; lists -/
theorem pI_I (w : Wd) (a k : Nat) (v : Int32) (b j : Nat) : wI (sI w a k v) b j = if b = a ∧ j = k then v else wI w b j := by
  show va_up (wI w) a (va_up (wI w a) k v) b j = _
  by_cases h : b = a
  · subst h
    rw [va_up_self]
    by_cases h2 : j = k
    · subst h2; rw [va_up_self, if_pos ⟨rfl, rfl⟩]
    · rw [va_up_ne _ _ h2, if_neg (fun z => h2 z.2)]
  · rw [va_up_ne _ _ h, if_neg (fun z => h z.1)]
theorem pR_R (w : Wd) (a k : Nat) (v : Option Nat) (b j : Nat) : wR (sR w a k v) b j = if b = a ∧ j = k then v else wR w b j := by
  show va_up (wR w) a (va_up (wR w a) k v) b j = _
  by_cases h : b = a
  · subst h
    rw [va_up_self]
    by_cases h2 : j = k
    · subst h2; rw [va_up_self, if_pos ⟨rfl, rfl⟩]
    · rw [va_up_ne _ _ h2, if_neg (fun z => h2 z.2)]
  · rw [va_up_ne _ _ h, if_neg (fun z => h z.1)]
theorem pJ_J (w : Wd) (a k : Nat) (v : Int64) (b j : Nat) : wJ (sJ w a k v) b j = if b = a ∧ j = k then v else wJ w b j := by
  show va_up (wJ w) a (va_up (wJ w a) k v) b j = _
  by_cases h : b = a
  · subst h
    rw [va_up_self]
    by_cases h2 : j = k
    · subst h2; rw [va_up_self, if_pos ⟨rfl, rfl⟩]
    · rw [va_up_ne _ _ h2, if_neg (fun z => h2 z.2)]
  · rw [va_up_ne _ _ h, if_neg (fun z => h z.1)]
theorem pI_R (w : Wd) (a k : Nat) (v : Option Nat) : wI (sR w a k v) = wI w := rfl
theorem pI_J (w : Wd) (a k : Nat) (v : Int64) : wI (sJ w a k v) = wI w := rfl
theorem pR_I (w : Wd) (a k : Nat) (v : Int32) : wR (sI w a k v) = wR w := rfl
theorem pR_J (w : Wd) (a k : Nat) (v : Int64) : wR (sJ w a k v) = wR w := rfl
theorem pJ_I (w : Wd) (a k : Nat) (v : Int32) : wJ (sI w a k v) = wJ w := rfl
theorem pJ_R (w : Wd) (a k : Nat) (v : Option Nat) : wJ (sR w a k v) = wJ w := rfl
theorem pK_I (w : Wd) (a k : Nat) (v : Int32) : wK (sI w a k v) = wK w := rfl
theorem pK_R (w : Wd) (a k : Nat) (v : Option Nat) : wK (sR w a k v) = wK w := rfl
theorem pK_J (w : Wd) (a k : Nat) (v : Int64) : wK (sJ w a k v) = wK w := rfl
theorem pL_I (w : Wd) (a k : Nat) (v : Int32) : wL (sI w a k v) = wL w := rfl
theorem pL_R (w : Wd) (a k : Nat) (v : Option Nat) : wL (sR w a k v) = wL w := rfl
theorem pL_J (w : Wd) (a k : Nat) (v : Int64) : wL (sJ w a k v) = wL w := rfl
theorem pN_I (w : Wd) (a k : Nat) (v : Int32) : wN (sI w a k v) = wN w := rfl
theorem pN_R (w : Wd) (a k : Nat) (v : Option Nat) : wN (sR w a k v) = wN w := rfl
theorem pN_J (w : Wd) (a k : Nat) (v : Int64) : wN (sJ w a k v) = wN w := rfl
theorem pis_I (w : Wd) (a k : Nat) (v : Int32) (b ci : Nat) : bw_is (sI w a k v) b ci ↔ bw_is w b ci := Iff.rfl
theorem pis_R (w : Wd) (a k : Nat) (v : Option Nat) (b ci : Nat) : bw_is (sR w a k v) b ci ↔ bw_is w b ci := Iff.rfl
theorem pis_J (w : Wd) (a k : Nat) (v : Int64) (b ci : Nat) : bw_is (sJ w a k v) b ci ↔ bw_is w b ci := Iff.rfl
theorem pL_N (w : Wd) (q kd n : Nat) : wL (bw_new w q kd n) = wL w ++ [q] := rfl
theorem pK_N (w : Wd) (q kd n b : Nat) : wK (bw_new w q kd n) b = if b = q then kd else wK w b := rfl
theorem pN_N (w : Wd) (q kd n b : Nat) : wN (bw_new w q kd n) b = if b = q then n else wN w b := rfl
theorem pI_N (w : Wd) (q kd n b j : Nat) : wI (bw_new w q kd n) b j = if b = q then 0 else wI w b j := by
  show va_up (wI w) q (fun _ => 0) b j = _
  unfold va_up; by_cases h : b = q <;> simp [h]
theorem pR_N (w : Wd) (q kd n b j : Nat) : wR (bw_new w q kd n) b j = if b = q then none else wR w b j := by
  show va_up (wR w) q (fun _ => none) b j = _
  unfold va_up; by_cases h : b = q <;> simp [h]
theorem pJ_N (w : Wd) (q kd n b j : Nat) : wJ (bw_new w q kd n) b j = if b = q then 0 else wJ w b j := by
  show va_up (wJ w) q (fun _ => 0) b j = _
  unfold va_up; by_cases h : b = q <;> simp [h]
/-- the list's array d -/
def hasA (w : Wd) (a : Nat) (xs : List Nat) (d : Nat) : Prop := wR w a 1 = some d ∧ bw_is w d 100 ∧ xs.length ≤ wN w d ∧ 10 ≤ wN w d ∧ wN w d ≤ 40000 ∧ ∀ i, i < xs.length → wR w d i = xs[i]?
/-- what stands at the address a of a list: the objects xs; e0 is the empty array of all new lists -/
def isL (e0 : Nat) (w : Wd) (a : Nat) (xs : List Nat) : Prop := bw_is w a 7 ∧ wI w a 2 = nI xs.length ∧ (∀ x ∈ xs, ∃ cn, bw_is w x cn ∧ cn < 6 ∧ cn ≠ 5) ∧
  ((xs = [] ∧ wR w a 1 = some e0) ∨ ∃ d, hasA w a xs d)
theorem isL_init {e0 mi a : Nat} {w : Wd} {Q : Wd → Prop} (ha : bw_is w a 7) (hs : wI w a 2 = 0) (h : ∀ w', isL e0 w' a [] → w' = sR (sI w a 0 0) a 1 (some e0) → Q w') : wp_Al_init e0 mi a w Q := by
  unfold wp_Al_init wp_Bl_init wp_Bc_init
  refine ⟨ha, ha, h _ ⟨ha, ?_, fun x hx => (by cases hx), Or.inl ⟨rfl, ?_⟩⟩ rfl⟩
  · rw [pI_R, pI_I, if_neg (fun z => by simp at z), hs]; rfl
  · rw [pR_R, if_pos ⟨rfl, rfl⟩]
theorem isL_size {e0 mi a : Nat} {w : Wd} {xs : List Nat} {Q : Int32 → Wd → Prop} (hl : isL e0 w a xs) (h : Q (nI xs.length) w) : wp_Al_size e0 mi a w Q := by
  unfold wp_Al_size
  refine ⟨hl.1, ?_⟩
  rw [hl.2.1]
  exact h
theorem isL_get {e0 mi a i x : Nat} {w : Wd} {xs : List Nat} {Q : Option Nat → Wd → Prop} (hl : isL e0 w a xs) (hx : xs[i]? = some x) (h : Q (some x) w) : wp_Al_get e0 mi a (nI i) w Q := by
  have hi : i < xs.length := (List.getElem?_eq_some_iff.mp hx).1
  obtain ⟨h1, h2, h3, h4⟩ := hl
  rcases h4 with ⟨rfl, -⟩ | ⟨d, e1, e3, e4, e5, e6, e7⟩
  · simp at hi
  · have hlt : xs.length < 2 ^ 31 := by omega
    unfold wp_Al_get wp_Ob_checkIndex wp_Pr_checkIndex wp_Al_elementData
    refine ⟨h1, fun z => absurd z (nI_pos (by omega)), fun _ => ⟨fun _ => ⟨h1, h1, d, e1, e3, vp_in_nI (by omega) (by omega), ?_⟩, fun z => absurd (by rw [h2]; exact nI_lt hi hlt) z⟩⟩
    rw [nI_clamp (by omega), e7 i hi, hx]
    exact h
theorem pR_row (w : Wd) (a : Nat) (f : Nat → Option Nat) (b j : Nat) : wR (sRow w a f) b j = if b = a then f j else wR w b j := by
  show va_up (wR w) a f b j = _
  unfold va_up; by_cases h : b = a <;> simp [h]
/-- behind add: the list has one more, only the list's own cell, its array or a new array have changed -/
def addW (e0 : Nat) (w : Wd) (a x : Nat) (xs : List Nat) (w' : Wd) : Prop :=
  isL e0 w' a (xs ++ [x]) ∧ wJ w' = wJ w ∧ (∀ b, b ∈ wL w → b ∈ wL w' ∧ wK w' b = wK w b ∧ wN w' b = wN w b) ∧ (∀ b, b ∈ wL w → b ≠ a → wI w' b = wI w b) ∧
  (∀ b, b ∈ wL w → b ≠ a → wR w a 1 ≠ some b → wR w' b = wR w b)
/-- add, where there is room -/
theorem isL_add_room {e0 mi a x d nc ns : Nat} {w : Wd} {xs : List Nat} {Q : Int32 → Wd → Prop} (hl : isL e0 w a xs) (hx : ∃ cn, bw_is w x cn ∧ cn < 6 ∧ cn ≠ 5) (hd : hasA w a xs d) (hroom : xs.length < wN w d)
    (h : ∀ w', addW e0 w a x xs w' → wL w' = wL w → Q 1 w') : wp_Al_add e0 mi a (some x) w nc ns Q := by
  obtain ⟨h1, h2, h3, -⟩ := hl
  obtain ⟨e1, e3, e4, e5, e6, e7⟩ := hd
  · have had : d ≠ a := fun z => by
      have k1 := h1.2; have k2 := e3.2
      rw [z] at k2; rw [k1] at k2; exact absurd k2 (by decide)
    have hsz : ∀ v, wI (sI w a 0 v) a 2 = nI xs.length := fun v => by rw [pI_I, if_neg (fun z => by simp at z), h2]
    unfold wp_Al_add wp_Al_add2 wb_Al_add2_11
    refine ⟨h1, 0, 0, Nat.zero_le _, Nat.zero_le _, wN w d, Or.inr ⟨d, by rw [pR_I]; exact e1, e3, rfl⟩, ?_, ?_⟩
    · intro _
      refine ⟨d, by rw [pR_I]; exact e1, e3, ?_, ?_, h1, ?_⟩
      · rw [hsz]
        exact vp_in_nI hroom (show wN w d < 2 ^ 31 by omega)
      · intro b hb; cases hb; exact hx
      · refine h _ ⟨⟨h1, ?_, ?_, Or.inr ⟨d, ?_, e3, ?_, e5, e6, ?_⟩⟩, rfl, fun b hb => ⟨hb, rfl, rfl⟩, ?_, ?_⟩ rfl
        · rw [pI_I, if_pos ⟨rfl, rfl⟩, hsz, nI_1]
          simp
        · intro z hz
          rcases List.mem_append.mp hz with hz | hz
          · exact h3 z hz
          · rw [List.mem_singleton.mp hz]; exact hx
        · rw [pR_I, pR_R, if_neg (fun z => had z.1.symm), pR_I]; exact e1
        · show (xs ++ [x]).length ≤ wN w d
          simp; omega
        · intro i hi
          rw [pR_I, pR_R, pR_I, hsz, nI_clamp (by omega)]
          by_cases hi2 : i = xs.length
          · rw [if_pos ⟨rfl, hi2⟩, hi2]; simp
          · rw [if_neg (fun z => hi2 z.2), e7 i (by simp at hi; omega), List.getElem?_append_left (by simp at hi; omega)]
        · intro b hb hba
          funext j
          rw [pI_I, if_neg (fun z => hba z.1), pI_R, pI_I, if_neg (fun z => hba z.1)]
        · intro b hb hba hbd
          funext j
          rw [pR_I, pR_R, if_neg (fun z => hbd (by rw [e1, z.1])), pR_I]
    · intro z
      rw [hsz, nI_eq (by omega) (by omega)] at z
      omega
/-- the last of add's steps, on an array d with room at the place n -/
theorem add2_11 {e0 mi a x d nc ns n : Nat} {w : Wd} {Q : Wd → Prop} (h1 : bw_is w a 7) (hx : ∃ cn, bw_is w x cn ∧ cn < 6 ∧ cn ≠ 5) (e3 : bw_is w d 100) (hr : n < wN w d) (hN : wN w d ≤ 40000) (h : Q (sI (sR w d n (some x)) a 2 (nI (n + 1)))) : wb_Al_add2_11 e0 mi Q a (some x) (some d) (nI n) w nc ns := by
  unfold wb_Al_add2_11
  refine ⟨d, rfl, e3, vp_in_nI hr (by omega), ?_, h1, ?_⟩
  · intro b hb; cases hb; exact hx
  · rw [nI_clamp (by omega), nI_1]
    exact h
/-- add, the first of all: ten places are made -/
theorem isL_add_first {e0 mi a x nc ns : Nat} {w : Wd} {Q : Int32 → Wd → Prop} (hl : isL e0 w a []) (he : wR w a 1 = some e0) (hx : ∃ cn, bw_is w x cn ∧ cn < 6 ∧ cn ≠ 5) (hnc : 1 ≤ nc) (hns : 10 ≤ ns)
    (h : ∀ q w', q ∉ wL w → w' = sI (sR (sR (bw_new (sI w a 0 (wI w a 0 + 1)) q 100 10) a 1 (some q)) q 0 (some x)) a 2 (nI 1) → Q 1 w') : wp_Al_add e0 mi a (some x) w nc ns Q := by
  obtain ⟨h1, h2, h3, -⟩ := hl
  have hsz : ∀ v, wI (sI w a 0 v) a 2 = nI 0 := fun v => by rw [pI_I, if_neg (fun z => by simp at z), h2]; rfl
  have i10 : (10 : Int32).toNatClampNeg = 10 := by decide
  unfold wp_Al_add wp_Al_add2 wp_Al_grow wp_Al_grow2
  refine ⟨h1, 1, 10, hnc, hns, 0, Or.inl ⟨by rw [pR_I]; exact he, rfl⟩, fun z => absurd (hsz _) z, fun _ => ⟨h1, 1, 10, Nat.le_refl _, Nat.le_refl _, h1, 1, 10, Nat.le_refl _, Nat.le_refl _, h1, 0, Or.inl ⟨by rw [pR_I]; exact he, rfl⟩, fun i4 e4 => ⟨fun z => absurd z (by rw [e4]; decide), fun _ => ⟨fun _ i7 e7 => ?_, fun z => absurd (show wR (sI w a 0 (wI w a 0 + 1)) a 1 = some e0 by rw [pR_I]; exact he) z⟩⟩⟩⟩
  have e10 : i7 = 10 := by rw [e7, hsz]; decide
  subst e10
  refine ⟨by decide, by decide, Nat.le_refl _, by decide, fun q hq w14 ew => ?_⟩
  rw [i10] at ew
  have hqa : a ≠ q := fun z => hq (z ▸ h1.1)
  rw [hsz]
  have f1 : bw_is w14 a 7 := by rw [ew]; exact bw_is_new hq h1
  have f2 : bw_is w14 q 100 := by rw [ew]; exact bw_is_self _ _ _ _
  have f3 : wN w14 q = 10 := by rw [ew, pN_N, if_pos rfl]
  refine add2_11 (n := 0) f1 ?_ f2 (show 0 < wN w14 q by rw [f3]; decide) (show wN w14 q ≤ 40000 by rw [f3]; decide) ?_
  · obtain ⟨cn, k1, k2⟩ := hx
    have k3 : bw_is w14 x cn := by rw [ew]; exact bw_is_new (n := 10) hq k1
    exact ⟨cn, k3, k2⟩
  · exact h q _ hq (by rw [ew])
