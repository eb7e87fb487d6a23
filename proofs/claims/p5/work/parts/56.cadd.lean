/-! THE CLASS: the state behind takeOn; a list grows -/
theorem mm15_come (S : St) (j b a : Nat) : mm (comeS S j b) 15 a = if a = j then 0 else mm S 15 a := by
  unfold comeS
  rw [mm_ur, mm_um_ne _ _ _ (by decide), mm_um_ne _ _ _ (by decide), mm_um_ne _ _ _ (by decide), mm_um]
  by_cases h : a = j
  · rw [if_pos ⟨rfl, h⟩, if_pos h]
  · rw [if_neg (fun z => h z.2), if_neg h, mm_um_ne _ _ _ (by decide)]
theorem mm18_come (S : St) (j b a : Nat) : mm (comeS S j b) 18 a = if a = j then 0 else mm S 18 a := by
  unfold comeS
  rw [mm_ur, mm_um_ne _ _ _ (by decide), mm_um]
  by_cases h : a = j
  · rw [if_pos ⟨rfl, h⟩, if_pos h]
  · rw [if_neg (fun z => h z.2), if_neg h, mm_um_ne _ _ _ (by decide), mm_um_ne _ _ _ (by decide), mm_um_ne _ _ _ (by decide)]
theorem mm19_come (S : St) (j b a : Nat) : mm (comeS S j b) 19 a = if a = j then 0 else mm S 19 a := by
  unfold comeS
  rw [mm_ur, mm_um]
  by_cases h : a = j
  · rw [if_pos ⟨rfl, h⟩, if_pos h]
  · rw [if_neg (fun z => h z.2), if_neg h, mm_um_ne _ _ _ (by decide), mm_um_ne _ _ _ (by decide), mm_um_ne _ _ _ (by decide), mm_um_ne _ _ _ (by decide)]
/-- all of the items but where the item i is -/
def c5x (S : St) (w : Wd) (P : Nat → Nat → Nat) (i : Nat) : Prop :=
  (∀ j, 1 ≤ j → j ≤ nT S → bw_is w (P 1 j) 2 ∧ wI w (P 1 j) 0 = nI j ∧ wI w (P 1 j) 1 = mm S 16 j ∧ wI w (P 1 j) 2 = mm S 20 j ∧ wI w (P 1 j) 6 = mm S 13 j ∧ (j ≠ i → (∀ b, b < nB S → mm S 14 j = nI b → wR w (P 1 j) 3 = some (P 0 b)) ∧
    (mm S 13 j = 0 → wI w (P 1 j) 7 = mm S 15 j ∧ wI w (P 1 j) 8 = mm S 19 j ∧ wI w (P 1 j) 9 = mm S 17 j ∧ wI w (P 1 j) 10 = mm S 18 j))) ∧ (∀ a j, 1 ≤ a → a ≤ nT S → 1 ≤ j → j ≤ nT S → P 1 a = P 1 j → a = j)
theorem c5_x {S : St} {w : Wd} {P : Nat → Nat → Nat} (h : c5 S w P) (i : Nat) : c5x S w P i :=
  ⟨fun j j1 j2 => by
    obtain ⟨q0, q1, q2, q3, q4, q5, q6⟩ := h.1 j j1 j2
    exact ⟨q0, q1, q2, q3, q4, fun _ => ⟨q5, q6⟩⟩, h.2⟩
section CL
variable {e0 mi q : Nat} {P : Nat → Nat → Nat} {S : St} {w : Wd} {LE LW : List (Nat × Ed)}
theorem C_take {b i : Nat} {Q : Wd → Prop} (h1 : c1 S w q P) (h2 : c2 e0 S w P LE LW) (h3 : c3 S w P) (h4 : c4 S w P) (h5 : c5x S w P i) (h6 : c6 S w P) (h7 : c7 S w P) (h8 : c8 S w LE LW)
    (hr : ∀ c j, j ∈ rr S c → 1 ≤ j ∧ j ≤ nT S ∧ j ≠ i) (hnd : (rr S b).Nodup) (hdis : ∀ c, c ≠ b → ∀ j, j ∈ rr S c → j ∉ rr S b) (hb : b < nB S) (hb8 : nB S ≤ 8) (i1 : 1 ≤ i) (i2' : i ≤ nT S)
    (hQ : ∀ w', RC e0 (comeS S i b) w' q P LE LW → FrC w w' → wL w' = wL w → Q w') : wp_Bt_takeOn e0 mi (P 0 b) (some (P 1 i)) w Q := by
  have hbc := (h3.1 b hb).1
  have h5i := h5.1 i i1 i2'
  have is2 := fun c j (hj : j ∈ rr S c) => (h5.1 j (hr c j hj).1 (hr c j hj).2.1).1
  have inj : ∀ a ∈ rr S b, ∀ c ∈ rr S b, P 1 a = P 1 c → a = c := fun a ha c hc => h5.2 a c (hr b a ha).1 (hr b a ha).2.1 (hr b c hc).1 (hr b c hc).2.1
  have nei : ∀ a ∈ rr S b, P 1 a ≠ P 1 i := fun a ha z => (hr b a ha).2.2 (h5.2 a i (hr b a ha).1 (hr b a ha).2.1 i1 i2' z)
  have nc : ∀ a ∈ rr S b, P 1 a ≠ P 0 b := fun a ha => is_ne (is2 b a ha) hbc (by decide)
  have nic : P 1 i ≠ P 0 b := is_ne h5i.1 hbc (by decide)
  have h3b := h3.1 b hb
  refine C_takeOn h5i.1 hbc h3b.2.2.2.2.2.2.2.1 (fun x hx => ?_) (fun w' hg => ?_)
  · cases hy : (rr S b).getLast? with
    | none => rw [hy] at hx; cases hx
    | some y =>
      rw [hy] at hx
      cases hx
      exact ⟨is2 b y (List.mem_of_getLast? hy), nei y (List.mem_of_getLast? hy)⟩
  · have links := takG_links hg hnd inj nei nc nic (fun k j hk => h6 b k j hk)
    have ends := takG_ends hg nic.symm h3b.2.2.2.2.2.2.1
    have K : Kp (fun x => x = P 0 b ∨ x = P 1 i ∨ ∃ j, j ∈ rr S b ∧ x = P 1 j) w w' := (takG_kp hg).mono (fun x _ hx => by
      rcases hx with z | z | z
      · exact Or.inl z
      · exact Or.inr (Or.inl z)
      · cases hy : (rr S b).getLast? with
        | none => rw [hy] at z; cases z
        | some y => rw [hy] at z; cases z; exact Or.inr (Or.inr ⟨y, List.mem_of_getLast? hy, rfl⟩))
    have hL := hg.1
    have hgI := hg.2.2.2.2.1
    have hgR := hg.2.2.2.2.2.1
    have hgR3 := hg.2.2.2.2.2.2.1
    have kN : ∀ a ci, bw_is w a ci → ci ≠ 0 → ci ≠ 2 → ¬ (a = P 0 b ∨ a = P 1 i ∨ ∃ j, j ∈ rr S b ∧ a = P 1 j) := fun a ci ha c0 c2' z => by
      rcases z with z | z | ⟨j, hj, z⟩
      · exact absurd z (is_ne ha hbc c0)
      · exact absurd z (is_ne ha h5i.1 c2')
      · exact absurd z (is_ne ha (is2 b j hj) c2')
    have em : ∀ k, k ≠ 14 ∧ k ≠ 15 ∧ k ≠ 17 ∧ k ≠ 18 ∧ k ≠ 19 → mm (comeS S i b) k = mm S k := fun k hk => mm_come S i b hk
    refine hQ w' ⟨c1_eq (c1_kp h1 K (fun a ha => kN a 5 ha (by decide) (by decide))) (em 1 (by decide)) (em 2 (by decide)) (em 30 (by decide)), c2_eq (c2_kp h2 K (fun a ha => kN a 7 ha (by decide) (by decide)) (fun a ha => kN a 100 ha (by decide) (by decide))) (fun _ => rfl) (fun _ => rfl), ⟨fun c hc => ?_, h3.2⟩, c4_eq (c4_kp h4 K (fun a ha => kN a 4 ha (by decide) (by decide))) rfl (em 7 (by decide)) (em 8 (by decide)) (em 9 (by decide)), ⟨fun j j1 j2 => ?_, h5.2⟩, fun c k j hk => ?_, c7_eq (c7_kp h7 K (fun a ha => kN a 3 ha (by decide) (by decide))) rfl rfl (em 22 (by decide)) (em 23 (by decide)) (em 24 (by decide)), c8_eq (c8_kp h8 K (fun a ha => kN a 1 ha (by decide) (by decide))) rfl rfl⟩ (K.frC (fun a ha hx => ?_)) hL
    · replace hc : c < nB S := hc
      rw [em 4 (by decide), em 5 (by decide), em 6 (by decide), rr_come]
      by_cases hcb : c = b
      · subst hcb
        obtain ⟨q0, q1, q2, q3, q4, q5, q6, q7, q8, q9⟩ := h3.1 c hc
        rw [if_pos rfl]
        refine ⟨K.is q0, ?_, ?_, ?_, ?_, ?_, ends.1, ends.2, ?_, ?_⟩
        · rw [hgI, if_neg (fun z => by simp at z), if_neg (fun z => nic z.1.symm)]; exact q1
        · rw [hgI, if_neg (fun z => by simp at z), if_neg (fun z => nic z.1.symm)]; exact q2
        · rw [hgI, if_neg (fun z => by simp at z), if_neg (fun z => nic z.1.symm)]; exact q3
        · rw [hgI, if_neg (fun z => by simp at z), if_neg (fun z => nic z.1.symm)]; exact q4
        · rw [hgI, if_pos ⟨rfl, rfl⟩, q5, nI_1]; simp
        · rw [hgR _ _ (by decide) (by decide) (by decide)]; exact q8
        · rw [hgR _ _ (by decide) (by decide) (by decide)]; exact q9
      · have h3c := h3.1 c hc
        have hne : P 0 c ≠ P 0 b := fun z => hcb (h3.2 c b hc hb z)
        have hX : ¬ (P 0 c = P 0 b ∨ P 0 c = P 1 i ∨ ∃ j, j ∈ rr S b ∧ P 0 c = P 1 j) := fun z => by
          rcases z with z | z | ⟨j, hj, z⟩
          · exact hne z
          · exact absurd z (is_ne h3c.1 h5i.1 (by decide))
          · exact absurd z (is_ne h3c.1 (is2 b j hj) (by decide))
        rw [if_neg hcb, K.I h3c.1.1 hX, K.R h3c.1.1 hX]
        exact ⟨K.is h3c.1, h3c.2⟩
    · obtain ⟨q0, q1, q2, q3, q4, q5⟩ := h5.1 j j1 j2
      have njc : P 1 j ≠ P 0 b := is_ne q0 hbc (by decide)
      rw [em 16 (by decide), em 20 (by decide), em 13 (by decide), mm14_come, mm15_come, mm17_come, mm18_come, mm19_come]
      by_cases hji : j = i
      · subst hji
        rw [if_pos rfl, if_pos rfl, if_pos rfl, if_pos rfl, if_pos rfl]
        refine ⟨K.is q0, ?_, ?_, ?_, ?_, fun c hc hcb => ?_, fun _ => ⟨?_, ?_, ?_, ?_⟩⟩
        · rw [hgI, if_neg (fun z => njc z.1), if_neg (fun z => by simp at z)]; exact q1
        · rw [hgI, if_neg (fun z => njc z.1), if_neg (fun z => by simp at z)]; exact q2
        · rw [hgI, if_neg (fun z => njc z.1), if_neg (fun z => by simp at z)]; exact q3
        · rw [hgI, if_neg (fun z => njc z.1), if_neg (fun z => by simp at z)]; exact q4
        · replace hc : c < nB S := hc
          rw [hgR3, if_pos rfl, (nI_eq (by omega) (by omega)).mp hcb]
        · rw [hgI, if_neg (fun z => njc z.1), if_pos ⟨rfl, by decide⟩]
        · rw [hgI, if_neg (fun z => njc z.1), if_pos ⟨rfl, by decide⟩]
        · rw [hgI, if_neg (fun z => njc z.1), if_pos ⟨rfl, by decide⟩]
        · rw [hgI, if_neg (fun z => njc z.1), if_pos ⟨rfl, by decide⟩]
      · have hne : P 1 j ≠ P 1 i := fun z => hji (h5.2 j i j1 j2 i1 i2' z)
        have e : ∀ s, wI w' (P 1 j) s = wI w (P 1 j) s := fun s => by rw [hgI, if_neg (fun z => njc z.1), if_neg (fun z => hne z.1)]
        rw [if_neg hji, if_neg hji, if_neg hji, if_neg hji, if_neg hji, e, e, e, e, e, e, e, e, hgR3, if_neg hne]
        exact ⟨K.is q0, q1, q2, q3, q4, (q5 hji).1, (q5 hji).2⟩
    · rw [rr_come] at hk ⊢
      by_cases hcb : c = b
      · rw [if_pos hcb] at hk ⊢
        exact links k j hk
      · rw [if_neg hcb] at hk ⊢
        have hjm := List.mem_of_getElem? hk
        have hX : ¬ (P 1 j = P 0 b ∨ P 1 j = P 1 i ∨ ∃ y, y ∈ rr S b ∧ P 1 j = P 1 y) := fun z => by
          rcases z with z | z | ⟨y, hy, z⟩
          · exact absurd z (is_ne (is2 c j hjm) hbc (by decide))
          · exact (hr c j hjm).2.2 (h5.2 j i (hr c j hjm).1 (hr c j hjm).2.1 i1 i2' z)
          · have := h5.2 j y (hr c j hjm).1 (hr c j hjm).2.1 (hr b y hy).1 (hr b y hy).2.1 z
            rw [this] at hjm
            exact hdis c hcb y hjm hy
        rw [K.R (is2 c j hjm).1 hX]
        exact h6 c k j hk
    · rcases hx with z | z | ⟨j, hj, z⟩
      · rw [z, hbc.2]; unfold kM; omega
      · rw [z, h5i.1.2]; unfold kM; omega
      · rw [z, (is2 b j hj).2]; unfold kM; omega
end CL
/-- the row of the list k is now d -/
def Pn (P : Nat → Nat → Nat) (k d : Nat) : Nat → Nat → Nat := fun a j => if a = 7 ∧ j = k then d else P a j
theorem Pn_o (P : Nat → Nat → Nat) (k d : Nat) {a : Nat} (h : a ≠ 7) : Pn P k d a = P a := by
  funext j; unfold Pn; rw [if_neg (fun z => h z.1)]
theorem Pn_7 (P : Nat → Nat → Nat) (k d : Nat) : Pn P k d 7 k = d := by unfold Pn; rw [if_pos ⟨rfl, rfl⟩]
theorem Pn_7o (P : Nat → Nat → Nat) (k d : Nat) {j : Nat} (h : j ≠ k) : Pn P k d 7 j = P 7 j := by unfold Pn; rw [if_neg (fun z => h z.2)]
theorem lsx_Pn (S : St) (P : Nat → Nat → Nat) (k d : Nat) (LE LW : List (Nat × Ed)) (j : Nat) : lsx S (Pn P k d) LE LW j = lsx S P LE LW j := by
  unfold lsx
  rw [Pn_o P k d (show (0 : Nat) ≠ 7 by decide), Pn_o P k d (show (1 : Nat) ≠ 7 by decide), Pn_o P k d (show (3 : Nat) ≠ 7 by decide)]
theorem c2_add {e0 : Nat} {S S' : St} {w w' : Wd} {P : Nat → Nat → Nat} {LE LW LE' LW' : List (Nat × Ed)} {k d' n' : Nat} {xs' : List Nat} (h : c2 e0 S w P LE LW) (hk : k < 6) (hK : isK e0 w' (P 6 k) d' n' xs') (hd : (d' = P 7 k ∧ 0 < lmx S k) ∨ d' ∉ wL w)
    (K : Kp (fun x => x = P 6 k ∨ (0 < lmx S k ∧ x = P 7 k)) w w') (hl : ∀ j, j < 6 → j ≠ k → lmx S' j = lmx S j) (hl' : lmx S' k = n') (hx : ∀ j, j < 6 → j ≠ k → lsx S' P LE' LW' j = lsx S P LE LW j) (hx' : lsx S' P LE' LW' k = xs') : c2 e0 S' w' (Pn P k d') LE' LW' := by
  obtain ⟨g1, g2, g3⟩ := h
  have gk := g1 k hk
  have fresh : ∀ j, j < 6 → j ≠ k → 0 < lmx S j → P 7 j ≠ d' := fun j hj hjk hp z => by
    rcases hd with ⟨d1, d2⟩ | d1
    · exact g3 j k hj hk hjk hp d2 (z.trans d1)
    · exact d1 (z ▸ ((g1 j hj).2.2.2.2.2.2 hp).2.1.1)
  refine ⟨fun j hj => ?_, fun i j hi hj hn => ?_, fun i j hi hj hn z1 z2 => ?_⟩
  · rw [Pn_o P k d' (show (6 : Nat) ≠ 7 by decide), lsx_Pn]
    by_cases hjk : j = k
    · subst hjk
      rw [Pn_7, hl', hx']; exact hK
    · rw [Pn_7o P k d' hjk, hl j hj hjk, hx j hj hjk]
      have gj := g1 j hj
      refine isK_kp gj K (fun z => ?_) (fun hp z => ?_)
      · rcases z with z | ⟨z1, z2⟩
        · exact g2 j k hj hk hjk z
        · exact absurd z2 (is_ne gj.1 (gk.2.2.2.2.2.2 z1).2.1 (by decide))
      · rcases z with z | ⟨z1, z2⟩
        · exact absurd z (is_ne (gj.2.2.2.2.2.2 hp).2.1 gk.1 (by decide))
        · exact g3 j k hj hk hjk hp z1 z2
  · rw [Pn_o P k d' (show (6 : Nat) ≠ 7 by decide)]; exact g2 i j hi hj hn
  · by_cases hik : i = k
    · subst hik
      rw [Pn_7, Pn_7o P i d' (Ne.symm hn)]
      rw [hl j hj (Ne.symm hn)] at z2
      exact fun z => fresh j hj (Ne.symm hn) z2 z.symm
    · by_cases hjk : j = k
      · subst hjk
        rw [Pn_7, Pn_7o P j d' hik]
        rw [hl i hi hik] at z1
        exact fresh i hi hik z1
      · rw [Pn_7o P k d' hik, Pn_7o P k d' hjk]
        rw [hl i hi hik] at z1
        rw [hl j hj hjk] at z2
        exact g3 i j hi hj hn z1 z2
