/-! THE CLASS: an item is taken on -/
def takG (w w' : Wd) (c a : Nat) (La : Option Nat) : Prop :=
  wL w' = wL w ∧ wK w' = wK w ∧ wN w' = wN w ∧ wJ w' = wJ w ∧
  (∀ x s, wI w' x s = if x = c ∧ s = 6 then wI w c 6 + 1 else if x = a ∧ (s = 7 ∨ s = 8 ∨ s = 9 ∨ s = 10) then 0 else wI w x s) ∧
  (∀ x s, s ≠ 3 → s ≠ 4 → s ≠ 5 → wR w' x s = wR w x s) ∧
  (∀ x, wR w' x 3 = if x = a then some c else wR w x 3) ∧
  (∀ x, wR w' x 4 = if x = a then La else if La = none ∧ x = c then some a else wR w x 4) ∧
  (∀ x, wR w' x 5 = if x = c then some a else if La = some x then some a else if x = a then none else wR w x 5)
theorem is_eq {w u : Wd} (h1 : wL u = wL w) (h2 : wK u = wK w) {x ci : Nat} (h : bw_is w x ci) : bw_is u x ci := ⟨by rw [h1]; exact h.1, by rw [h2]; exact h.2⟩
theorem C_startOn {e0 mi c a : Nat} {w : Wd} {La : Option Nat} {Q : Wd → Prop} (ha : bw_is w a 2)
    (hQ : ∀ u, (wL u = wL w ∧ wK u = wK w ∧ wN u = wN w ∧ wJ u = wJ w) → (∀ x s, wI u x s = if x = a ∧ (s = 7 ∨ s = 8 ∨ s = 9 ∨ s = 10) then 0 else wI w x s) →
      (∀ x s, wR u x s = if x = a ∧ s = 5 then none else if x = a ∧ s = 4 then La else if x = a ∧ s = 3 then some c else wR w x s) → Q u) : wp_It_startOn e0 mi a (some c) La w Q := by
  unfold wp_It_startOn wp_It_forgetWay
  refine ⟨ha, is_eq (by rw [pL_I, pL_I, pL_R, pL_R, pL_R]) (by rw [pK_I, pK_I, pK_R, pK_R, pK_R]) ha, hQ _ ⟨?_, ?_, ?_, ?_⟩ (fun x s => ?_) (fun x s => ?_)⟩
  · rw [pL_I, pL_I, pL_I, pL_I, pL_R, pL_R, pL_R]
  · rw [pK_I, pK_I, pK_I, pK_I, pK_R, pK_R, pK_R]
  · rw [pN_I, pN_I, pN_I, pN_I, pN_R, pN_R, pN_R]
  · rw [pJ_I, pJ_I, pJ_I, pJ_I, pJ_R, pJ_R, pJ_R]
  · rw [pI_I, pI_I, pI_I, pI_I, pI_R, pI_R, pI_R]
    by_cases hx : x = a
    · subst hx
      by_cases h10 : s = 10
      · simp [h10]
      · by_cases h9 : s = 9
        · simp [h9]
        · by_cases h8 : s = 8
          · simp [h8]
          · by_cases h7 : s = 7
            · simp [h7]
            · simp [h7, h8, h9, h10]
    · simp [hx]
  · rw [pR_I, pR_I, pR_I, pR_I, pR_R, pR_R, pR_R]
theorem C_takeOn {e0 mi c a : Nat} {w : Wd} {La : Option Nat} {Q : Wd → Prop} (ha : bw_is w a 2) (hc : bw_is w c 0) (hL : wR w c 5 = La) (hL2 : ∀ x, La = some x → bw_is w x 2 ∧ x ≠ a)
    (hQ : ∀ w', takG w w' c a La → Q w') : wp_Bt_takeOn e0 mi c (some a) w Q := by
  have hca : c ≠ a := is_ne hc ha (by decide)
  have hcL : ∀ x, La = some x → x ≠ c := fun x hx => is_ne (hL2 x hx).1 hc (by decide)
  unfold wp_Bt_takeOn
  rw [hL]
  refine ⟨hc, a, rfl, ha, C_startOn ha (fun u eL I1 R1 => ?_)⟩
  have ic : bw_is u c 0 := is_eq eL.1 eL.2.1 hc
  have u5 : wR u c 5 = La := by
    rw [R1, if_neg (fun z => hca z.1), if_neg (fun z => hca z.1), if_neg (fun z => hca z.1), hL]
  rw [u5]
  have T : ∀ v : Wd, wL v = wL u ∧ wK v = wK u ∧ wN v = wN u ∧ wJ v = wJ u → wI v = wI u → (∀ x s, wR v x s = if La = some x ∧ s = 5 then some a else if La = none ∧ x = c ∧ s = 4 then some a else wR u x s) → wb_Bt_takeOn_32 e0 mi Q c (some a) v := fun v hv hI hR => by
    unfold wb_Bt_takeOn_32
    have icv : bw_is v c 0 := is_eq hv.1 hv.2.1 ic
    refine ⟨icv, hQ _ ⟨hv.1.trans eL.1, hv.2.1.trans eL.2.1, hv.2.2.1.trans eL.2.2.1, hv.2.2.2.trans eL.2.2.2, fun x s => ?_, fun x s s3 s4 s5 => ?_, fun x => ?_, fun x => ?_, fun x => ?_⟩⟩
    · rw [pI_I, pI_R, hI]
      by_cases hx : x = c ∧ s = 6
      · rw [if_pos hx, if_pos hx, I1, if_neg (fun z => hca z.1)]
      · rw [if_neg hx, if_neg hx, I1]
    · rw [pR_I, pR_R, if_neg (fun z => s5 z.2), hR, if_neg (fun z => s5 z.2), if_neg (fun z => s4 z.2.2), R1, if_neg (fun z => s5 z.2), if_neg (fun z => s4 z.2), if_neg (fun z => s3 z.2)]
    · have q1 : ¬ (x = c ∧ (3 : Nat) = 5) := fun z => absurd z.2 (by decide)
      have q2 : ¬ (La = some x ∧ (3 : Nat) = 5) := fun z => absurd z.2 (by decide)
      have q3 : ¬ (La = none ∧ x = c ∧ (3 : Nat) = 4) := fun z => absurd z.2.2 (by decide)
      have q4 : ¬ (x = a ∧ (3 : Nat) = 5) := fun z => absurd z.2 (by decide)
      have q5 : ¬ (x = a ∧ (3 : Nat) = 4) := fun z => absurd z.2 (by decide)
      rw [pR_I, pR_R, if_neg q1, hR, if_neg q2, if_neg q3, R1, if_neg q4, if_neg q5]
      by_cases hx : x = a
      · rw [if_pos ⟨hx, rfl⟩, if_pos hx]
      · rw [if_neg (fun z => hx z.1), if_neg hx]
    · have q1 : ¬ (x = c ∧ (4 : Nat) = 5) := fun z => absurd z.2 (by decide)
      have q2 : ¬ (La = some x ∧ (4 : Nat) = 5) := fun z => absurd z.2 (by decide)
      have q4 : ¬ (x = a ∧ (4 : Nat) = 5) := fun z => absurd z.2 (by decide)
      rw [pR_I, pR_R, if_neg q1, hR, if_neg q2, R1, if_neg q4]
      by_cases hx : x = a
      · have q3 : ¬ (La = none ∧ x = c ∧ (4 : Nat) = 4) := fun z => hca (z.2.1.symm.trans hx)
        rw [if_neg q3, if_pos ⟨hx, rfl⟩, if_pos hx]
      · have q5 : ¬ (x = a ∧ (4 : Nat) = 4) := fun z => hx z.1
        have q6 : ¬ (x = a ∧ (4 : Nat) = 3) := fun z => hx z.1
        rw [if_neg q5, if_neg q6, if_neg hx]
        by_cases hn : La = none ∧ x = c
        · rw [if_pos ⟨hn.1, hn.2, rfl⟩, if_pos hn]
        · rw [if_neg (show ¬ (La = none ∧ x = c ∧ (4 : Nat) = 4) from fun z => hn ⟨z.1, z.2.1⟩), if_neg hn]
    · rw [pR_I, pR_R, hR, R1]
      by_cases hx : x = c
      · rw [if_pos ⟨hx, rfl⟩, if_pos hx]
      · rw [if_neg (show ¬ (x = c ∧ (5 : Nat) = 5) from fun z => hx z.1), if_neg hx]
        by_cases hl : La = some x
        · rw [if_pos ⟨hl, rfl⟩, if_pos hl]
        · rw [if_neg (show ¬ (La = some x ∧ (5 : Nat) = 5) from fun z => hl z.1), if_neg hl, if_neg (show ¬ (La = none ∧ x = c ∧ (5 : Nat) = 4) from fun z => hx z.2.1)]
          by_cases hxa : x = a
          · rw [if_pos ⟨hxa, rfl⟩, if_pos hxa]
          · rw [if_neg (show ¬ (x = a ∧ (5 : Nat) = 5) from fun z => hxa z.1), if_neg (show ¬ (x = a ∧ (5 : Nat) = 4) from fun z => hxa z.1), if_neg (show ¬ (x = a ∧ (5 : Nat) = 3) from fun z => hxa z.1), if_neg hxa]
  refine ⟨ic, fun z => ?_, fun z => ?_⟩
  · obtain ⟨x, hx⟩ := opt_ne z
    refine ⟨x, hx, is_eq eL.1 eL.2.1 (hL2 x hx).1, T _ ⟨rfl, rfl, rfl, rfl⟩ rfl (fun y s => ?_)⟩
    rw [pR_R]
    by_cases hy : y = x ∧ s = 5
    · rw [if_pos hy, if_pos ⟨by rw [hx, hy.1], hy.2⟩]
    · rw [if_neg hy, if_neg (show ¬ (La = some y ∧ s = 5) from fun q => hy ⟨by have := q.1; rw [hx] at this; exact (Option.some.inj this).symm, q.2⟩), if_neg (show ¬ (La = none ∧ y = c ∧ s = 4) from fun q => z q.1)]
  · refine T _ ⟨rfl, rfl, rfl, rfl⟩ rfl (fun y s => ?_)
    rw [pR_R, if_neg (show ¬ (La = some y ∧ s = 5) from fun q => by rw [z] at q; cases q.1)]
    by_cases hy : y = c ∧ s = 4
    · rw [if_pos hy, if_pos ⟨z, hy⟩]
    · rw [if_neg hy, if_neg (show ¬ (La = none ∧ y = c ∧ s = 4) from fun q => hy q.2)]
theorem prevO_app (l : List Nat) (i k : Nat) (h : k ≤ l.length) : prevO (l ++ [i]) k = prevO l k := by
  unfold prevO
  by_cases hk : k = 0
  · rw [if_pos hk, if_pos hk]
  · rw [if_neg hk, if_neg hk, List.getElem?_append_left (by omega)]
theorem takG_links {P : Nat → Nat → Nat} {w w' : Wd} {c i : Nat} {l : List Nat} (hg : takG w w' c (P 1 i) (l.getLast?.map (P 1))) (hn : l.Nodup) (hinj : ∀ a ∈ l, ∀ b ∈ l, P 1 a = P 1 b → a = b) (hi : ∀ a ∈ l, P 1 a ≠ P 1 i) (hc : ∀ a ∈ l, P 1 a ≠ c) (hic : P 1 i ≠ c)
    (hl : ∀ k j, l[k]? = some j → wR w (P 1 j) 4 = (prevO l k).map (P 1) ∧ wR w (P 1 j) 5 = l[k + 1]?.map (P 1)) :
    ∀ k j, (l ++ [i])[k]? = some j → wR w' (P 1 j) 4 = (prevO (l ++ [i]) k).map (P 1) ∧ wR w' (P 1 j) 5 = (l ++ [i])[k + 1]?.map (P 1) := by
  intro k j hk
  obtain ⟨-, -, -, -, -, -, -, g4, g5⟩ := hg
  rcases app_get hk with ⟨hk1, rfl⟩ | ⟨hk1, hk2⟩
  · rw [g4, g5, if_pos rfl, if_neg hic, if_pos rfl, prevO_app _ _ _ (by omega), List.getElem?_eq_none (by simp; omega)]
    refine ⟨?_, ?_⟩
    · congr 1
      unfold prevO
      by_cases h0 : k = 0
      · rw [if_pos h0]
        have : l = [] := List.length_eq_zero_iff.mp (by omega)
        rw [this]; rfl
      · rw [if_neg h0, List.getLast?_eq_getElem?, hk1]
    · rw [if_neg (fun z => by
        cases hx : l.getLast? with
        | none => rw [hx] at z; cases z
        | some x => rw [hx] at z; exact hi x (List.mem_of_getLast? hx) (Option.some.inj z))]
      rfl
  · have hjm := List.mem_of_getElem? hk2
    have hlt := (List.getElem?_eq_some_iff.mp hk2).1
    have hold := hl k j hk2
    refine ⟨?_, ?_⟩
    · rw [g4, if_neg (hi j hjm), if_neg (fun z => hc j hjm z.2), prevO_app _ _ _ (by omega)]
      exact hold.1
    · rw [g5, if_neg (hc j hjm), if_neg (show ¬ P 1 j = P 1 i from hi j hjm)]
      by_cases hla : l.getLast?.map (P 1) = some (P 1 j)
      · rw [if_pos hla]
        have hlj : l.getLast? = some j := by
          cases hx : l.getLast? with
          | none => rw [hx] at hla; cases hla
          | some x => rw [hx] at hla; rw [hinj x (List.mem_of_getLast? hx) j hjm (Option.some.inj hla)]
        rw [List.getLast?_eq_getElem?] at hlj
        have hke : k = l.length - 1 := by
          rcases Nat.lt_trichotomy k (l.length - 1) with z | z | z
          · exact absurd hk2 (nodup_first hn hlj k z)
          · exact z
          · omega
        rw [show k + 1 = l.length by omega, List.getElem?_append_right (Nat.le_refl _), Nat.sub_self]
        rfl
      · rw [if_neg hla, hold.2]
        have hk3 : k + 1 < l.length := by
          rcases Nat.lt_or_ge (k + 1) l.length with z | z
          · exact z
          · exfalso
            apply hla
            rw [List.getLast?_eq_getElem?, show l.length - 1 = k by omega, hk2]
            rfl
        rw [List.getElem?_append_left hk3]
theorem takG_ends {P : Nat → Nat → Nat} {w w' : Wd} {c i : Nat} {l : List Nat} (hg : takG w w' c (P 1 i) (l.getLast?.map (P 1))) (hic : c ≠ P 1 i) (h4 : wR w c 4 = l[0]?.map (P 1)) : wR w' c 4 = (l ++ [i])[0]?.map (P 1) ∧ wR w' c 5 = (l ++ [i]).getLast?.map (P 1) := by
  obtain ⟨-, -, -, -, -, -, -, g4, g5⟩ := hg
  refine ⟨?_, ?_⟩
  · rw [g4, if_neg hic]
    cases l with
    | nil => rw [if_pos ⟨rfl, rfl⟩]; rfl
    | cons x t =>
      rw [if_neg (fun z => by
        have := z.1
        cases hx : (x :: t).getLast? with
        | none => rw [List.getLast?_eq_none_iff] at hx; cases hx
        | some y => rw [hx] at this; cases this), h4]
      rfl
  · rw [g5, if_pos rfl]
    simp
