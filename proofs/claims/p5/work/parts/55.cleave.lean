/-! THE CLASS: the state behind leave, takeOn -/
theorem c1_eq {S S' : St} {w : Wd} {q : Nat} {P : Nat → Nat → Nat} (h : c1 S w q P) (e1 : mm S' 1 = mm S 1) (e2 : mm S' 2 = mm S 2) (e30 : mm S' 30 = mm S 30) : c1 S' w q P := by
  unfold c1 at *
  rw [e1, e2, e30]; exact h
theorem c2_eq {e0 : Nat} {S S' : St} {w : Wd} {P : Nat → Nat → Nat} {LE LW : List (Nat × Ed)} (h : c2 e0 S w P LE LW) (hl : ∀ k, lmx S' k = lmx S k) (hx : ∀ k, lsx S' P LE LW k = lsx S P LE LW k) : c2 e0 S' w P LE LW :=
  ⟨fun k hk => by rw [hl, hx]; exact h.1 k hk, h.2.1, fun j k hj hk hn z1 z2 => h.2.2 j k hj hk hn (by rw [← hl]; exact z1) (by rw [← hl]; exact z2)⟩
theorem c4_eq {S S' : St} {w : Wd} {P : Nat → Nat → Nat} (h : c4 S w P) (hn : nB S' = nB S) (e7 : mm S' 7 = mm S 7) (e8 : mm S' 8 = mm S 8) (e9 : mm S' 9 = mm S 9) : c4 S' w P := by
  unfold c4 at *
  rw [hn, e7, e8, e9]; exact h
theorem c7_eq {S S' : St} {w : Wd} {P : Nat → Nat → Nat} (h : c7 S w P) (hn : nB S' = nB S) (hs : nS S' = nS S) (e22 : mm S' 22 = mm S 22) (e23 : mm S' 23 = mm S 23) (e24 : mm S' 24 = mm S 24) : c7 S' w P := by
  unfold c7 at *
  rw [hn, hs, e22, e23, e24]; exact h
theorem c8_eq {S S' : St} {w : Wd} {LE LW : List (Nat × Ed)} (h : c8 S w LE LW) (he : eds S' = eds S) (hw : wts S' = wts S) : c8 S' w LE LW := by
  unfold c8 at *
  rw [he, hw]; exact h
theorem letG_kp {w w' : Wd} {c a1 : Nat} {Ah Bh : Option Nat} (h : letG w w' c a1 Ah Bh) : Kp (fun x => x = c ∨ x = a1 ∨ Ah = some x ∨ Bh = some x) w w' := by
  obtain ⟨g1, g2, g3, g4, gI, gR, gR4, gR5⟩ := h
  intro x hx
  refine ⟨by rw [g1]; exact hx, by rw [g2], by rw [g3], fun hn => ⟨?_, ?_, by rw [g4]⟩⟩
  · funext s; rw [gI, if_neg (fun z => hn (Or.inl z.1))]
  · funext s
    by_cases s4 : s = 4
    · rw [s4, gR4, if_neg (fun z => hn (Or.inr (Or.inl z))), if_neg (fun z => hn (Or.inr (Or.inr (Or.inr z)))), if_neg (fun z => hn (Or.inl z.2))]
    · by_cases s5 : s = 5
      · rw [s5, gR5, if_neg (fun z => hn (Or.inr (Or.inl z))), if_neg (fun z => hn (Or.inr (Or.inr (Or.inl z)))), if_neg (fun z => hn (Or.inl z.2))]
      · exact gR x s s4 s5
theorem takG_kp {w w' : Wd} {c a : Nat} {La : Option Nat} (h : takG w w' c a La) : Kp (fun x => x = c ∨ x = a ∨ La = some x) w w' := by
  obtain ⟨g1, g2, g3, g4, gI, gR, gR3, gR4, gR5⟩ := h
  intro x hx
  refine ⟨by rw [g1]; exact hx, by rw [g2], by rw [g3], fun hn => ⟨?_, ?_, by rw [g4]⟩⟩
  · funext s; rw [gI, if_neg (fun z => hn (Or.inl z.1)), if_neg (fun z => hn (Or.inr (Or.inl z.1)))]
  · funext s
    by_cases s3 : s = 3
    · rw [s3, gR3, if_neg (fun z => hn (Or.inr (Or.inl z)))]
    · by_cases s4 : s = 4
      · rw [s4, gR4, if_neg (fun z => hn (Or.inr (Or.inl z))), if_neg (fun z => hn (Or.inl z.2))]
      · by_cases s5 : s = 5
        · rw [s5, gR5, if_neg (fun z => hn (Or.inl z)), if_neg (fun z => hn (Or.inr (Or.inr z))), if_neg (fun z => hn (Or.inr (Or.inl z)))]
        · exact gR x s s3 s4 s5
section CL
variable {e0 mi q : Nat} {P : Nat → Nat → Nat} {S : St} {w : Wd} {LE LW : List (Nat × Ed)}
theorem prev_mem {l : List Nat} {p x : Nat} (h : prevO l p = some x) : x ∈ l := by
  unfold prevO at h
  by_cases hp : p = 0
  · rw [if_pos hp] at h; cases h
  · rw [if_neg hp] at h; exact List.mem_of_getElem? h
/-- letGo of the item at the place p of the row b: the rows behind it -/
theorem C_let {b p i : Nat} {Q : Wd → Prop} (R : RC e0 S w q P LE LW) (hS : okS S) (hp : (rr S b)[p]? = some i)
    (hQ : ∀ w', c3 (ur S b ((rr S b).eraseIdx p)) w' P → c5 S w' P → c6 (ur S b ((rr S b).eraseIdx p)) w' P → (∀ x, x ≠ P 0 b → wI w' x = wI w x) → Kp (fun x => x = P 0 b ∨ ∃ j, j ∈ rr S b ∧ x = P 1 j) w w' → wL w' = wL w → Q w') : wp_Bt_letGo e0 mi (P 0 b) (some (P 1 i)) w Q := by
  have him := List.mem_of_getElem? hp
  obtain ⟨hb, i1, i2', i3, i4, i5, b8, i61⟩ := in_row hS him
  obtain ⟨r1, r2, r3, r4, r5, r6, r7, r8⟩ := R
  have hit := fun j (hj : j ∈ rr S b) => in_row hS hj
  have is2 := fun j (hj : j ∈ rr S b) => (r5.1 j (hit j hj).2.1 (hit j hj).2.2.1).1
  have inj : ∀ a ∈ rr S b, ∀ c ∈ rr S b, P 1 a = P 1 c → a = c := fun a ha c hc => r5.2 a c (hit a ha).2.1 (hit a ha).2.2.1 (hit c hc).2.1 (hit c hc).2.2.1
  have hbc := (r3.1 b hb).1
  have nc : ∀ a ∈ rr S b, P 1 a ≠ P 0 b := fun a ha => is_ne (is2 a ha) hbc (by decide)
  have lk := r6 b p i hp
  have hlt := (List.getElem?_eq_some_iff.mp hp).1
  refine C_letGo (is2 i him) hbc lk.1 lk.2 (fun x hx => ?_) (fun x hx => ?_) (fun w' hg => ?_)
  · cases hy : prevO (rr S b) p with
    | none => rw [hy] at hx; cases hx
    | some y =>
      rw [hy] at hx
      cases hx
      have hym := prev_mem hy
      refine ⟨is2 y hym, fun z => ?_⟩
      have hyi := inj y hym i him z
      unfold prevO at hy
      by_cases hp0 : p = 0
      · rw [if_pos hp0] at hy; cases hy
      · rw [if_neg hp0, hyi] at hy
        exact nodup_first (hS.2.2.2.1 b) hp (p - 1) (by omega) hy
  · cases hy : (rr S b)[p + 1]? with
    | none => rw [hy] at hx; cases hx
    | some y =>
      rw [hy] at hx
      cases hx
      have hym := List.mem_of_getElem? hy
      refine ⟨is2 y hym, fun z => ?_⟩
      have hyi := inj y hym i him z
      rw [hyi] at hy
      exact nodup_first (hS.2.2.2.1 b) hy p (by omega) hp
  · have links := letG_links hg (hS.2.2.2.1 b) hp inj nc (fun k j hk => r6 b k j hk)
    have ends := letG_ends hg hp nc (r3.1 b hb).2.2.2.2.2.2.1 (r3.1 b hb).2.2.2.2.2.2.2.1
    have K : Kp (fun x => x = P 0 b ∨ ∃ j, j ∈ rr S b ∧ x = P 1 j) w w' := (letG_kp hg).mono (fun x _ hx => by
      rcases hx with z | z | z | z
      · exact Or.inl z
      · exact Or.inr ⟨i, him, z⟩
      · cases hy : prevO (rr S b) p with
        | none => rw [hy] at z; cases z
        | some y => rw [hy] at z; cases z; exact Or.inr ⟨y, prev_mem hy, rfl⟩
      · cases hy : (rr S b)[p + 1]? with
        | none => rw [hy] at z; cases z
        | some y => rw [hy] at z; cases z; exact Or.inr ⟨y, List.mem_of_getElem? hy, rfl⟩)
    have hL := hg.1
    have hgI := hg.2.2.2.2.1
    have hgR := hg.2.2.2.2.2.1
    have hI : ∀ x, x ≠ P 0 b → wI w' x = wI w x := fun x hx => by funext s; rw [hgI, if_neg (fun z => hx z.1)]
    refine hQ w' ⟨fun c hc => ?_, r3.2⟩ ⟨fun j j1 j2 => ?_, r5.2⟩ (fun c k j hk => ?_) hI K hL
    · replace hc : c < nB S := hc
      rw [mm_ur, rr_ur]
      by_cases hcb : c = b
      · subst hcb
        obtain ⟨q0, q1, q2, q3, q4, q5, q6, q7, q8, q9⟩ := r3.1 c hc
        rw [if_pos rfl]
        refine ⟨K.is q0, ?_, ?_, ?_, ?_, ?_, ends.1, ends.2, ?_, ?_⟩
        · rw [hgI, if_neg (fun z => by simp at z)]; exact q1
        · rw [hgI, if_neg (fun z => by simp at z)]; exact q2
        · rw [hgI, if_neg (fun z => by simp at z)]; exact q3
        · rw [hgI, if_neg (fun z => by simp at z)]; exact q4
        · rw [hgI, if_pos ⟨rfl, rfl⟩, q5, List.length_eraseIdx, if_pos hlt]
          have hle : (rr S c).length = ((rr S c).length - 1) + 1 := by omega
          rw [hle, nI_pred]; simp
        · rw [hgR _ _ (by decide) (by decide)]; exact q8
        · rw [hgR _ _ (by decide) (by decide)]; exact q9
      · have h3c := r3.1 c hc
        have hne : P 0 c ≠ P 0 b := fun z => hcb (r3.2 c b hc hb z)
        have hX : ¬ (P 0 c = P 0 b ∨ ∃ j, j ∈ rr S b ∧ P 0 c = P 1 j) := fun z => by
          rcases z with z | ⟨j, hj, z⟩
          · exact hne z
          · exact absurd z (is_ne h3c.1 (is2 j hj) (by decide))
        rw [if_neg hcb, K.I h3c.1.1 hX, K.R h3c.1.1 hX]
        exact ⟨K.is h3c.1, h3c.2⟩
    · have h5j := r5.1 j j1 j2
      rw [hI (P 1 j) (is_ne h5j.1 hbc (by decide)), hgR _ 3 (by decide) (by decide)]
      exact ⟨K.is h5j.1, h5j.2⟩
    · rw [rr_ur] at hk ⊢
      by_cases hcb : c = b
      · rw [if_pos hcb] at hk ⊢
        exact links k j hk
      · rw [if_neg hcb] at hk ⊢
        have hjm := List.mem_of_getElem? hk
        have hj := in_row hS hjm
        have h2j := (r5.1 j hj.2.1 hj.2.2.1).1
        have hX : ¬ (P 1 j = P 0 b ∨ ∃ y, y ∈ rr S b ∧ P 1 j = P 1 y) := fun z => by
          rcases z with z | ⟨y, hy, z⟩
          · exact absurd z (is_ne h2j hbc (by decide))
          · have := r5.2 j y hj.2.1 hj.2.2.1 (hit y hy).2.1 (hit y hy).2.2.1 z
            rw [this] at hjm
            exact hcb (ok_row hS hjm hy)
        rw [K.R h2j.1 hX]
        exact r6 c k j hk
/-- an item leaves for no belt -/
theorem C_leave {b p i : Nat} {v : Int32} {Q : Wd → Prop} (R : RC e0 S w q P LE LW) (hS : okS S) (hp : (rr S b)[p]? = some i) (hv : ¬ v = 0)
    (hQ : ∀ w', RC e0 (um (ur S b ((rr S b).eraseIdx p)) 13 i v) w' q P LE LW → FrC w w' → wL w' = wL w → Q w') : wp_It_leave e0 mi (P 1 i) v w Q := by
  have him := List.mem_of_getElem? hp
  obtain ⟨hb, i1, i2', i3, i4, i5, b8, i61⟩ := in_row hS him
  have hR := R
  obtain ⟨r1, r2, r3, r4, r5, r6, r7, r8⟩ := R
  have h5i := r5.1 i i1 i2'
  have hbc := (r3.1 b hb).1
  have hw3 := h5i.2.2.2.2.2.1 b hb i4
  unfold wp_It_leave
  refine ⟨h5i.1, ?_⟩
  rw [hw3]
  refine ⟨fun z => (by cases z), fun _ => ⟨P 0 b, rfl, hbc, C_let hR hS hp (fun w6 k3 k5 k6 kI K kL => ?_)⟩⟩
  unfold wb_It_leave_15 wp_It_forgetWay
  have i6 := (k5.1 i i1 i2').1
  have kN : ∀ a ci, bw_is w a ci → ci ≠ 0 → ci ≠ 2 → ¬ (a = P 0 b ∨ ∃ j, j ∈ rr S b ∧ a = P 1 j) := fun a ci ha c0 c2' z => by
    rcases z with z | ⟨j, hj, z⟩
    · exact absurd z (is_ne ha hbc c0)
    · have hj' := in_row hS hj
      exact absurd z (is_ne ha (r5.1 j hj'.2.1 hj'.2.2.1).1 c2')
  have K' : Kp (fun x => x = P 0 b ∨ ∃ j, j ∈ rr S b ∧ x = P 1 j) w (sI (sI (sI w6 (P 1 i) 6 v) (P 1 i) 9 0) (P 1 i) 10 0) := ((K.sI (fun _ => Or.inr ⟨i, him, rfl⟩)).sI (fun _ => Or.inr ⟨i, him, rfl⟩)).sI (fun _ => Or.inr ⟨i, him, rfl⟩)
  have e13 : ∀ k, k ≠ 13 → mm (um (ur S b ((rr S b).eraseIdx p)) 13 i v) k = mm S k := fun k hk => by rw [mm_um_ne _ _ _ hk, mm_ur]
  have wIx : ∀ x s, x ≠ P 1 i → wI (sI (sI (sI w6 (P 1 i) 6 v) (P 1 i) 9 0) (P 1 i) 10 0) x s = wI w6 x s := fun x s hx => by rw [pI_I, if_neg (fun z => hx z.1), pI_I, if_neg (fun z => hx z.1), pI_I, if_neg (fun z => hx z.1)]
  refine ⟨i6, i6, hQ _ ⟨c1_eq (c1_kp r1 K' (fun a ha => kN a 5 ha (by decide) (by decide))) (e13 1 (by decide)) (e13 2 (by decide)) (e13 30 (by decide)), c2_eq (c2_kp r2 K' (fun a ha => kN a 7 ha (by decide) (by decide)) (fun a ha => kN a 100 ha (by decide) (by decide))) (fun _ => rfl) (fun _ => rfl), ⟨fun c hc => ?_, k3.2⟩, c4_eq (c4_kp r4 K' (fun a ha => kN a 4 ha (by decide) (by decide))) rfl (e13 7 (by decide)) (e13 8 (by decide)) (e13 9 (by decide)), ⟨fun j j1 j2 => ?_, r5.2⟩, fun c k j hk => ?_, c7_eq (c7_kp r7 K' (fun a ha => kN a 3 ha (by decide) (by decide))) rfl rfl (e13 22 (by decide)) (e13 23 (by decide)) (e13 24 (by decide)), c8_eq (c8_kp r8 K' (fun a ha => kN a 1 ha (by decide) (by decide))) rfl rfl⟩ (K'.frC (fun a ha hx => ?_)) kL⟩
  · have h3c := k3.1 c hc
    have hne : P 0 c ≠ P 1 i := is_ne h3c.1 i6 (by decide)
    rw [e13 4 (by decide), e13 5 (by decide), e13 6 (by decide), rr_um]
    rw [mm_ur] at h3c
    obtain ⟨q0, q1, q2, q3, q4, q5, q6, q7, q8, q9⟩ := h3c
    refine ⟨q0, ?_, ?_, ?_, ?_, ?_, q6, q7, q8, q9⟩
    · rw [wIx _ _ hne]; exact q1
    · rw [wIx _ _ hne]; exact q2
    · rw [wIx _ _ hne]; exact q3
    · rw [wIx _ _ hne]; exact q4
    · rw [wIx _ _ hne]; exact q5
  · have h5j := k5.1 j j1 j2
    rw [e13 14 (by decide), e13 15 (by decide), e13 16 (by decide), e13 17 (by decide), e13 18 (by decide), e13 19 (by decide), e13 20 (by decide)]
    by_cases hji : j = i
    · subst hji
      obtain ⟨q0, q1, q2, q3, q4, q5, q6⟩ := h5j
      refine ⟨q0, ?_, ?_, ?_, ?_, q5, fun z => absurd (by rw [mm_um, if_pos ⟨rfl, rfl⟩] at z; exact z) hv⟩
      · rw [pI_I, if_neg (fun z => by simp at z), pI_I, if_neg (fun z => by simp at z), pI_I, if_neg (fun z => by simp at z)]; exact q1
      · rw [pI_I, if_neg (fun z => by simp at z), pI_I, if_neg (fun z => by simp at z), pI_I, if_neg (fun z => by simp at z)]; exact q2
      · rw [pI_I, if_neg (fun z => by simp at z), pI_I, if_neg (fun z => by simp at z), pI_I, if_neg (fun z => by simp at z)]; exact q3
      · rw [pI_I, if_neg (fun z => by simp at z), pI_I, if_neg (fun z => by simp at z), pI_I, if_pos ⟨rfl, rfl⟩, mm_um, if_pos ⟨rfl, rfl⟩]
    · have hne : P 1 j ≠ P 1 i := fun z => hji (r5.2 j i j1 j2 i1 i2' z)
      rw [mm_um, if_neg (fun z => hji z.2), mm_ur]
      obtain ⟨q0, q1, q2, q3, q4, q5, q6⟩ := h5j
      refine ⟨q0, ?_, ?_, ?_, ?_, q5, fun z => ?_⟩
      · rw [wIx _ _ hne]; exact q1
      · rw [wIx _ _ hne]; exact q2
      · rw [wIx _ _ hne]; exact q3
      · rw [wIx _ _ hne]; exact q4
      · obtain ⟨z7, z8, z9, z10⟩ := q6 z
        rw [wIx _ _ hne, wIx _ _ hne, wIx _ _ hne, wIx _ _ hne]
        exact ⟨z7, z8, z9, z10⟩
  · exact k6 c k j hk
  · rcases hx with z | ⟨j, hj, z⟩
    · rw [z, hbc.2]; unfold kM; omega
    · have hj' := in_row hS hj
      rw [z, (r5.1 j hj'.2.1 hj'.2.2.1).1.2]; unfold kM; omega
end CL
