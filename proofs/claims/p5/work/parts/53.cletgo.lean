/-! THE CLASS: an item is let go, taken on -/
/-- behind letGo of the item a1 from the belt c, whose neighbours are Ah and Bh -/
def letG (w w' : Wd) (c a1 : Nat) (Ah Bh : Option Nat) : Prop :=
  wL w' = wL w ∧ wK w' = wK w ∧ wN w' = wN w ∧ wJ w' = wJ w ∧
  (∀ x s, wI w' x s = if x = c ∧ s = 6 then wI w c 6 - 1 else wI w x s) ∧
  (∀ x s, s ≠ 4 → s ≠ 5 → wR w' x s = wR w x s) ∧
  (∀ x, wR w' x 4 = if x = a1 then none else if Bh = some x then Ah else if Ah = none ∧ x = c then Bh else wR w x 4) ∧
  (∀ x, wR w' x 5 = if x = a1 then none else if Ah = some x then Bh else if Bh = none ∧ x = c then Ah else wR w x 5)
theorem letG_tail {e0 mi c a1 : Nat} {w w2 : Wd} {Ah Bh : Option Nat} {Q : Wd → Prop} (h1 : bw_is w2 a1 2) (hc : bw_is w2 c 0) (hL : wL w2 = wL w ∧ wK w2 = wK w ∧ wN w2 = wN w ∧ wJ w2 = wJ w) (hI : wI w2 = wI w)
    (hR : ∀ x s, s ≠ 4 → s ≠ 5 → wR w2 x s = wR w x s) (h4 : ∀ x, x ≠ a1 → wR w2 x 4 = if Bh = some x then Ah else if Ah = none ∧ x = c then Bh else wR w x 4)
    (h5 : ∀ x, x ≠ a1 → wR w2 x 5 = if Ah = some x then Bh else if Bh = none ∧ x = c then Ah else wR w x 5) (hQ : ∀ w', letG w w' c a1 Ah Bh → Q w') : wb_Bt_letGo_58 e0 mi Q c (some a1) w2 := by
  unfold wb_Bt_letGo_58
  refine ⟨a1, rfl, h1, hc, hQ _ ⟨hL.1, hL.2.1, hL.2.2.1, hL.2.2.2, fun x s => ?_, fun x s s4 s5 => ?_, fun x => ?_, fun x => ?_⟩⟩
  · rw [pI_I, pI_R, pI_R, hI]
  · rw [pR_I, pR_R, if_neg (fun z => s5 z.2), pR_R, if_neg (fun z => s4 z.2)]; exact hR x s s4 s5
  · rw [pR_I, pR_R, if_neg (fun z => by simp at z), pR_R]
    by_cases hx : x = a1
    · rw [if_pos ⟨hx, rfl⟩, if_pos hx]
    · rw [if_neg (fun z => hx z.1), if_neg hx]; exact h4 x hx
  · rw [pR_I, pR_R]
    by_cases hx : x = a1
    · rw [if_pos ⟨hx, rfl⟩, if_pos hx]
    · rw [if_neg (fun z => hx z.1), if_neg hx, pR_R, if_neg (fun z => hx z.1)]; exact h5 x hx
theorem C_letGo {e0 mi c a1 : Nat} {w : Wd} {Ah Bh : Option Nat} {Q : Wd → Prop} (h1 : bw_is w a1 2) (hc : bw_is w c 0) (hA : wR w a1 4 = Ah) (hB : wR w a1 5 = Bh) (hA2 : ∀ x, Ah = some x → bw_is w x 2 ∧ x ≠ a1) (hB2 : ∀ x, Bh = some x → bw_is w x 2 ∧ x ≠ a1)
    (hQ : ∀ w', letG w w' c a1 Ah Bh → Q w') : wp_Bt_letGo e0 mi c (some a1) w Q := by
  have hca : c ≠ a1 := fun z => by
    have := hc.2; rw [z, h1.2] at this; exact absurd this (by decide)
  have hcA : ∀ x, Ah = some x → x ≠ c := fun x hx z => by
    have h2 := (hA2 x hx).1.2; rw [z, hc.2] at h2; exact absurd h2 (by decide)
  have hcB : ∀ x, Bh = some x → x ≠ c := fun x hx z => by
    have h2 := (hB2 x hx).1.2; rw [z, hc.2] at h2; exact absurd h2 (by decide)
  unfold wp_Bt_letGo
  refine ⟨a1, rfl, h1, ?_⟩
  rw [hA, hB]
  -- the first store
  have T : ∀ w1 : Wd, wL w1 = wL w ∧ wK w1 = wK w ∧ wN w1 = wN w ∧ wJ w1 = wJ w → wI w1 = wI w → (∀ x s, s ≠ 4 → s ≠ 5 → wR w1 x s = wR w x s) → (∀ x, wR w1 x 4 = if Ah = none ∧ x = c then Bh else wR w x 4) → (∀ x, wR w1 x 5 = if Ah = some x then Bh else wR w x 5) → wb_Bt_letGo_29 e0 mi Q c (some a1) w1 := fun w1 hL hI hR h4 h5 => by
    have i1 : bw_is w1 a1 2 := ⟨by rw [hL.1]; exact h1.1, by rw [hL.2.1]; exact h1.2⟩
    have ic : bw_is w1 c 0 := ⟨by rw [hL.1]; exact hc.1, by rw [hL.2.1]; exact hc.2⟩
    have b5 : wR w1 a1 5 = Bh := by
      rw [h5, hB]
      by_cases z : Ah = some a1
      · exact absurd rfl (hA2 a1 z).2
      · rw [if_neg z]
    have b4 : wR w1 a1 4 = Ah := by
      rw [h4, if_neg (fun z => hca z.2.symm), hA]
    unfold wb_Bt_letGo_29
    refine ⟨a1, rfl, i1, ?_⟩
    rw [b5, b4]
    refine ⟨fun z => ?_, fun z => ⟨ic, ?_⟩⟩
    · obtain ⟨x, hx⟩ := opt_ne z
      have ix : bw_is w1 x 2 := ⟨by rw [hL.1]; exact (hB2 x hx).1.1, by rw [hL.2.1]; exact (hB2 x hx).1.2⟩
      refine ⟨x, hx, ix, letG_tail i1 ic hL hI (fun y s s4 s5 => ?_) (fun y hy => ?_) (fun y hy => ?_) hQ⟩
      · rw [pR_R, if_neg (fun q => s4 q.2)]; exact hR y s s4 s5
      · rw [pR_R]
        by_cases hyx : y = x
        · rw [if_pos ⟨hyx, rfl⟩, if_pos (by rw [hx, hyx])]
        · rw [if_neg (fun q => hyx q.1), if_neg (fun q => hyx (by rw [hx] at q; exact (Option.some.inj q).symm))]; exact h4 y
      · rw [pR_R, if_neg (fun q => by simp at q), h5]
        by_cases hya : Ah = some y
        · rw [if_pos hya, if_pos hya]
        · rw [if_neg hya, if_neg hya, if_neg (fun q => z q.1)]
    · refine letG_tail i1 ic hL hI (fun y s s4 s5 => ?_) (fun y hy => ?_) (fun y hy => ?_) hQ
      · rw [pR_R, if_neg (fun q => s5 q.2)]; exact hR y s s4 s5
      · rw [pR_R, if_neg (fun q => by simp at q), h4, if_neg (show ¬ Bh = some y by rw [z]; simp)]
      · rw [pR_R]
        by_cases hyc : y = c
        · rw [if_pos ⟨hyc, rfl⟩, if_neg (fun q => hcA y q hyc), if_pos ⟨z, hyc⟩]
        · rw [if_neg (fun q => hyc q.1), h5]
          by_cases hya : Ah = some y
          · rw [if_pos hya, if_pos hya]
          · rw [if_neg hya, if_neg hya, if_neg (fun q => hyc q.2)]
  refine ⟨fun z => ?_, fun z => ⟨hc, ?_⟩⟩
  · obtain ⟨x, hx⟩ := opt_ne z
    refine ⟨x, hx, (hA2 x hx).1, T _ ⟨rfl, rfl, rfl, rfl⟩ rfl (fun y s s4 s5 => ?_) (fun y => ?_) (fun y => ?_)⟩
    · rw [pR_R, if_neg (fun q => s5 q.2)]
    · rw [pR_R, if_neg (fun q => by simp at q), if_neg (fun q => z q.1)]
    · rw [pR_R]
      by_cases hyx : y = x
      · rw [if_pos ⟨hyx, rfl⟩, if_pos (by rw [hx, hyx])]
      · rw [if_neg (fun q => hyx q.1), if_neg (fun q => hyx (by rw [hx] at q; exact (Option.some.inj q).symm))]
  · refine T _ ⟨rfl, rfl, rfl, rfl⟩ rfl (fun y s s4 s5 => ?_) (fun y => ?_) (fun y => ?_)
    · rw [pR_R, if_neg (fun q => s4 q.2)]
    · rw [pR_R]
      by_cases hyc : y = c
      · rw [if_pos ⟨hyc, rfl⟩, if_pos ⟨z, hyc⟩]
      · rw [if_neg (fun q => hyc q.1), if_neg (fun q => hyc q.2)]
    · rw [pR_R, if_neg (fun q => by simp at q), if_neg (fun q => by rw [z] at q; cases q)]
/-- the links of a row without its p-th item -/
theorem prevO_erase (l : List Nat) (p k : Nat) : prevO (l.eraseIdx p) k = if k ≤ p then prevO l k else l[k]? := by
  unfold prevO
  by_cases hk0 : k = 0
  · rw [if_pos hk0, if_pos (by omega), if_pos hk0]
  · rw [if_neg hk0, if_neg hk0, List.getElem?_eraseIdx]
    by_cases hkp : k ≤ p
    · rw [if_pos hkp, if_pos (by omega)]
    · rw [if_neg hkp, if_neg (by omega), show k - 1 + 1 = k by omega]
theorem letG_links {P : Nat → Nat → Nat} {w w' : Wd} {c p i : Nat} {l : List Nat} (hg : letG w w' c (P 1 i) ((prevO l p).map (P 1)) (l[p + 1]?.map (P 1))) (hn : l.Nodup) (hp : l[p]? = some i) (hinj : ∀ a ∈ l, ∀ b ∈ l, P 1 a = P 1 b → a = b) (hc : ∀ a ∈ l, P 1 a ≠ c)
    (hl : ∀ k j, l[k]? = some j → wR w (P 1 j) 4 = (prevO l k).map (P 1) ∧ wR w (P 1 j) 5 = l[k + 1]?.map (P 1)) :
    ∀ k j, (l.eraseIdx p)[k]? = some j → wR w' (P 1 j) 4 = (prevO (l.eraseIdx p) k).map (P 1) ∧ wR w' (P 1 j) 5 = (l.eraseIdx p)[k + 1]?.map (P 1) := by
  intro k j hk
  obtain ⟨-, -, -, -, -, -, g4, g5⟩ := hg
  have him : i ∈ l := List.mem_of_getElem? hp
  have hjm := (erase_mem hn hp).mp (List.mem_of_getElem? hk)
  have hji : P 1 j ≠ P 1 i := fun z => hjm.2 (hinj j hjm.1 i him z)
  have key : ∀ (a b x y : Nat), l[a]? = some x → l[b]? = some y → x = y → a = b := fun a b x y ha hb hxy => by
    subst hxy
    rcases Nat.lt_trichotomy a b with z | z | z
    · exact absurd ha (nodup_first hn hb a z)
    · exact z
    · exact absurd hb (nodup_first hn ha b z)
  rw [List.getElem?_eraseIdx] at hk
  have hlk : l[if k < p then k else k + 1]? = some j := by
    by_cases hkp : k < p
    · rw [if_pos hkp]; rw [if_pos hkp] at hk; exact hk
    · rw [if_neg hkp]; rw [if_neg hkp] at hk; exact hk
  have hold := hl _ j hlk
  have eqm : ∀ o : Option Nat, (∀ x, o = some x → x ∈ l) → (o.map (P 1) = some (P 1 j) ↔ o = some j) := fun o ho => by
    cases o with
    | none => simp
    | some x =>
      constructor
      · intro z
        have := hinj x (ho x rfl) j hjm.1 (Option.some.inj z)
        rw [this]
      · intro z; cases z; rfl
  have hB := eqm l[p + 1]? (fun x hx => List.mem_of_getElem? hx)
  have hA := eqm (prevO l p) (fun x hx => by
    unfold prevO at hx
    by_cases hp0 : p = 0
    · rw [if_pos hp0] at hx; cases hx
    · rw [if_neg hp0] at hx; exact List.mem_of_getElem? hx)
  have hjc : P 1 j ≠ c := hc j hjm.1
  refine ⟨?_, ?_⟩
  · rw [g4, if_neg hji, prevO_erase]
    by_cases hb : l[p + 1]? = some j
    · rw [if_pos (hB.mpr hb)]
      have := key _ _ _ _ hlk hb rfl
      have hkp : k = p := by
        by_cases z : k < p
        · rw [if_pos z] at this; omega
        · rw [if_neg z] at this; omega
      rw [if_pos (by omega), hkp]
    · rw [if_neg (fun z => hb (hB.mp z)), if_neg (fun z => hjc z.2), hold.1]
      by_cases z : k < p
      · rw [if_pos z, if_pos (by omega)]
      · have hkp : k ≠ p := fun q => hb (by rw [if_neg z, q] at hlk; exact hlk)
        rw [if_neg z, if_neg (by omega)]
        unfold prevO
        rw [if_neg (by omega), show k + 1 - 1 = k by omega]
  · rw [g5, if_neg hji, List.getElem?_eraseIdx]
    by_cases ha : prevO l p = some j
    · rw [if_pos (hA.mpr ha)]
      unfold prevO at ha
      by_cases hp0 : p = 0
      · rw [if_pos hp0] at ha; cases ha
      · rw [if_neg hp0] at ha
        have := key _ _ _ _ hlk ha rfl
        have hkp : k + 1 = p := by
          by_cases z : k < p
          · rw [if_pos z] at this; omega
          · rw [if_neg z] at this; omega
        rw [if_neg (by omega), hkp]
    · rw [if_neg (fun z => ha (hA.mp z)), if_neg (fun z => hjc z.2), hold.2]
      by_cases z : k < p
      · have hkp : k + 1 ≠ p := fun q => ha (by
          unfold prevO
          rw [if_neg (by omega), ← q, show k + 1 - 1 = k by omega]
          rw [if_pos z] at hlk; exact hlk)
        rw [if_pos z, if_pos (by omega)]
      · rw [if_neg z, if_neg (by omega)]
theorem letG_ends {P : Nat → Nat → Nat} {w w' : Wd} {c p i : Nat} {l : List Nat} (hg : letG w w' c (P 1 i) ((prevO l p).map (P 1)) (l[p + 1]?.map (P 1))) (hp : l[p]? = some i) (hc : ∀ a ∈ l, P 1 a ≠ c)
    (h4 : wR w c 4 = l[0]?.map (P 1)) (h5 : wR w c 5 = l.getLast?.map (P 1)) : wR w' c 4 = (l.eraseIdx p)[0]?.map (P 1) ∧ wR w' c 5 = (l.eraseIdx p).getLast?.map (P 1) := by
  obtain ⟨-, -, -, -, -, -, g4, g5⟩ := hg
  have him : i ∈ l := List.mem_of_getElem? hp
  have hlt := (List.getElem?_eq_some_iff.mp hp).1
  have hci : c ≠ P 1 i := fun z => hc i him z.symm
  have nob : ¬ l[p + 1]?.map (P 1) = some c := fun z => by
    cases hx : l[p + 1]? with
    | none => rw [hx] at z; cases z
    | some x => rw [hx] at z; exact hc x (List.mem_of_getElem? hx) (Option.some.inj z)
  have noa : ¬ (prevO l p).map (P 1) = some c := fun z => by
    cases hx : prevO l p with
    | none => rw [hx] at z; cases z
    | some x =>
      rw [hx] at z
      unfold prevO at hx
      by_cases hp0 : p = 0
      · rw [if_pos hp0] at hx; cases hx
      · rw [if_neg hp0] at hx
        exact hc x (List.mem_of_getElem? hx) (Option.some.inj z)
  have pn : (prevO l p).map (P 1) = none ↔ p = 0 := by
    unfold prevO
    by_cases hp0 : p = 0
    · rw [if_pos hp0]; simp [hp0]
    · rw [if_neg hp0, List.getElem?_eq_getElem (show p - 1 < l.length by omega)]
      simp [hp0]
  have bn : l[p + 1]?.map (P 1) = none ↔ p + 1 = l.length := by
    by_cases hb : p + 1 < l.length
    · rw [List.getElem?_eq_getElem hb]
      simp; omega
    · rw [List.getElem?_eq_none (by omega)]
      simp; omega
  refine ⟨?_, ?_⟩
  · rw [g4, if_neg hci, if_neg nob, List.getElem?_eraseIdx]
    by_cases hp0 : p = 0
    · rw [if_pos ⟨pn.mpr hp0, rfl⟩, if_neg (by omega), hp0]
    · rw [if_neg (fun z => hp0 (pn.mp z.1)), if_pos (by omega)]; exact h4
  · rw [g5, if_neg hci, if_neg noa, List.getLast?_eq_getElem?, List.getElem?_eraseIdx, List.length_eraseIdx, if_pos hlt]
    by_cases hb : p + 1 = l.length
    · rw [if_pos ⟨bn.mpr hb, rfl⟩]
      unfold prevO
      by_cases hp0 : p = 0
      · rw [if_pos hp0, if_neg (by omega), List.getElem?_eq_none (by omega)]
      · rw [if_neg hp0, if_pos (by omega), show l.length - 1 - 1 = p - 1 by omega]
    · rw [if_neg (fun z => hb (bn.mp z.1)), if_neg (by omega), h5, List.getLast?_eq_getElem?, show l.length - 1 - 1 + 1 = l.length - 1 by omega]
