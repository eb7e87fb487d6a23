/-! WHAT HOLDS OF EVERY STATE IS KEPT by every call -/
theorem ok_belt {S : St} (h : okS S) (hn : nB S < 8) (l v : Int32) : okS (beltS S l v) := by
  obtain ⟨h1, h2, h3, h4, h5, h6, h7, h8, h9, h10⟩ := h
  have e13 := mm_belt S l v (k := 13) (by decide)
  have e14 := mm_belt S l v (k := 14) (by decide)
  have e17 := mm_belt S l v (k := 17) (by decide)
  have e22 := mm_belt S l v (k := 22) (by decide)
  have eB : nB (beltS S l v) = nB S + 1 := rfl
  refine ⟨⟨by rw [eB]; omega, h1.2⟩, fun b hb => ?_, fun b j hj => ?_, h4, fun j hj1 hj2 => ?_, fun b hb y hy => ?_, ⟨h7.1, fun j hj => ?_⟩, fun s hs => ?_, h9, h10⟩
  · rw [eB] at hb; exact h2 b (by omega)
  · rw [e13, e14, e17]; exact h3 b j hj
  · rw [e13, e14, eB]
    obtain ⟨b, a1, a2, a3⟩ := h5 j hj1 hj2
    exact ⟨b, by omega, a2, a3⟩
  · rw [eB] at hb ⊢
    rw [mm7_belt]
    by_cases hbn : b = nB S
    · rw [if_pos (by omega)]; exact Or.inl rfl
    · rw [if_neg (by omega)]
      rcases h6 b (by omega) y hy with z | ⟨c, c1, c2, c3⟩
      · exact Or.inl z
      · exact Or.inr ⟨c, c1, by omega, c3⟩
  · rw [e13]; exact h7.2 j hj
  · rw [e22, eB]
    obtain ⟨b, a1, a2⟩ := h8 s hs
    exact ⟨b, by omega, a2⟩
theorem ok_scan {S : St} (h : okS S) (hn : nS S < 4) {b : Nat} (hb : b < nB S) (p d : Int32) : okS (scanS S (nI b) p d) := by
  obtain ⟨h1, h2, h3, h4, h5, h6, h7, h8, h9, h10⟩ := h
  have e13 := mm_scan S (nI b) p d (k := 13) (by decide)
  have e14 := mm_scan S (nI b) p d (k := 14) (by decide)
  have e17 := mm_scan S (nI b) p d (k := 17) (by decide)
  have e7 := mm_scan S (nI b) p d (k := 7) (by decide)
  have eS : nS (scanS S (nI b) p d) = nS S + 1 := rfl
  refine ⟨⟨h1.1, h1.2.1, by rw [eS]; omega⟩, h2, fun b j hj => ?_, h4, fun j hj1 hj2 => ?_, fun b hb y hy => ?_, ⟨h7.1, fun j hj => ?_⟩, fun s hs => ?_, h9, h10⟩
  · rw [e13, e14, e17]; exact h3 b j hj
  · rw [e13, e14]; exact h5 j hj1 hj2
  · rw [e7]; exact h6 b hb y hy
  · rw [e13]; exact h7.2 j hj
  · rw [eS] at hs
    rw [mm22_scan]
    by_cases hsn : s = nS S
    · rw [if_pos hsn]; exact ⟨b, hb, rfl⟩
    · rw [if_neg hsn]; exact h8 s (by omega)
theorem ok_item {S : St} (h : okS S) (hn : nT S < 60) {b : Nat} (hb : b < nB S) (l : Int32) : okS (itemS S b l) := by
  obtain ⟨h1, h2, h3, h4, h5, h6, h7, h8, h9, h10⟩ := h
  have e13 : ∀ a, mm (itemS S b l) 13 a = if a = nT S + 1 then 0 else mm S 13 a := fun a => by unfold itemS; rw [mm_come _ _ _ (by decide), mm13_item1]
  have e14 : ∀ a, mm (itemS S b l) 14 a = if a = nT S + 1 then nI b else mm S 14 a := fun a => by unfold itemS; rw [mm14_come, mm_item1 _ _ (by decide)]
  have e17 : ∀ a, mm (itemS S b l) 17 a = if a = nT S + 1 then 0 else mm S 17 a := fun a => by unfold itemS; rw [mm17_come, mm_item1 _ _ (by decide)]
  have e7 : mm (itemS S b l) 7 = mm S 7 := by unfold itemS; rw [mm_come _ _ _ (by decide), mm_item1 _ _ (by decide)]
  have e22 : mm (itemS S b l) 22 = mm S 22 := by unfold itemS; rw [mm_come _ _ _ (by decide), mm_item1 _ _ (by decide)]
  have er : ∀ c, rr (itemS S b l) c = if c = b then rr S b ++ [nT S + 1] else rr S c := fun c => by unfold itemS; rw [rr_come]; unfold item1; rw [rr_uT, rr_um, rr_um, rr_um]
  have eT : nT (itemS S b l) = nT S + 1 := by unfold itemS comeS; rw [nT_ur, nT_um, nT_um, nT_um, nT_um, nT_um]; unfold item1; rw [nT_uT]
  have eB : nB (itemS S b l) = nB S := by unfold itemS comeS; rw [nB_ur, nB_um, nB_um, nB_um, nB_um, nB_um]; unfold item1; rw [nB_uT, nB_um, nB_um, nB_um]
  have eN : nS (itemS S b l) = nS S := by unfold itemS comeS; rw [nS_ur, nS_um, nS_um, nS_um, nS_um, nS_um]; unfold item1; rw [nS_uT, nS_um, nS_um, nS_um]
  have eg : gos (itemS S b l) = gos S := by unfold itemS comeS; rw [gos_ur, gos_um, gos_um, gos_um, gos_um, gos_um]; unfold item1; rw [gos_uT, gos_um, gos_um, gos_um]
  have ee : eds (itemS S b l) = eds S := by unfold itemS comeS; rw [eds_ur, eds_um, eds_um, eds_um, eds_um, eds_um]; unfold item1; rw [eds_uT, eds_um, eds_um, eds_um]
  have ew : wts (itemS S b l) = wts S := by unfold itemS comeS; rw [wts_ur, wts_um, wts_um, wts_um, wts_um, wts_um]; unfold item1; rw [wts_uT, wts_um, wts_um, wts_um]
  generalize itemS S b l = S' at e13 e14 e17 e7 e22 er eT eB eN eg ee ew ⊢
  unfold okS
  rw [eB, eN, eg, ee, ew]
  refine ⟨⟨h1.1, by rw [eT]; omega, h1.2.2⟩, fun c hc => ?_, fun c a ha => ?_, fun c => ?_, fun a ha1 ha2 => ?_, fun c hc y hy => ?_, ⟨h7.1, fun a ha => ?_⟩, fun s hs => ?_, h9, h10⟩
  · rw [er, if_neg (by omega)]; exact h2 c hc
  · rw [er] at ha
    rw [e13, e14, e17, eT]
    have key : (a = nT S + 1 ∧ c = b) ∨ a ∈ rr S c := by
      by_cases hcb : c = b
      · rw [if_pos hcb] at ha
        rcases List.mem_append.mp ha with z | z
        · right; rw [hcb]; exact z
        · left; exact ⟨List.mem_singleton.mp z, hcb⟩
      · rw [if_neg hcb] at ha; exact Or.inr ha
    rcases key with ⟨z, zc⟩ | z
    · rw [if_pos z, if_pos z, if_pos z, z, zc]
      exact ⟨by omega, Nat.le_refl _, rfl, rfl, Or.inl rfl⟩
    · have := h3 c a z
      have hne : ¬ a = nT S + 1 := by omega
      rw [if_neg hne, if_neg hne, if_neg hne]
      exact ⟨this.1, by omega, this.2.2⟩
  · rw [er]
    by_cases hcb : c = b
    · rw [if_pos hcb]
      exact List.nodup_append.mpr ⟨h4 b, List.nodup_cons.mpr ⟨by simp, List.nodup_nil⟩, fun a ha a2 ha2 => by
        rw [List.mem_singleton.mp ha2]
        have := (h3 b a ha).2.1
        omega⟩
    · rw [if_neg hcb]; exact h4 c
  · rw [eT] at ha2
    rw [e13, e14]
    by_cases haj : a = nT S + 1
    · refine ⟨b, hb, by rw [if_pos haj], fun _ => ?_⟩
      rw [er, if_pos rfl, haj]; simp
    · obtain ⟨c, c1, c2, c3⟩ := h5 a ha1 (by omega)
      refine ⟨c, c1, by rw [if_neg haj]; exact c2, fun hz => ?_⟩
      rw [if_neg haj] at hz
      have := c3 hz
      rw [er]
      by_cases hcb : c = b
      · rw [if_pos hcb]; rw [hcb] at this; exact List.mem_append_left _ this
      · rw [if_neg hcb]; exact this
  · rw [e7]; exact h6 c hc y hy
  · have := h7.2 a ha
    rw [e13, eT, if_neg (by omega)]
    exact ⟨this.1, by omega, this.2.2⟩
  · rw [e22]; exact h8 s hs
theorem ok_clean {b : Nat} : ∀ (n : Nat) {S : St}, okS S → okS (cleanN S b n)
  | 0, _, h => h
  | n + 1, S, h => by
    unfold cleanN
    cases hr : rr S b with
    | nil => exact h
    | cons i t => exact ok_clean n (by rw [← hr]; exact ok_leave h (p := 0) (by rw [hr]; rfl) (by decide))
