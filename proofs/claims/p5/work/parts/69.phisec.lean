/-! HOW MANY EDGES THERE CAN BE: items that move; a second -/
def rcn (S : St) (b : Nat) (o n : Int32) (s : Nat) : Nat := if mm S 22 s = nI b ∧ o < mm S 23 s ∧ mm S 23 s ≤ n then 1 else 0
def sum0 (f : Nat → Nat) : Nat → Nat
  | 0 => 0
  | n + 1 => sum0 f n + f n
theorem rds_len (S : St) (b i : Nat) (o n : Int32) : ∀ s, (rdsS S b i o n s).length = sum0 (rcn S b o n) s
  | 0 => rfl
  | s + 1 => by
    have e : rdsS S b i o n (s + 1) = rdsS S b i o n s ++ (if mm S 22 s = nI b ∧ o < mm S 23 s ∧ mm S 23 s ≤ n then [(mm S 1 0 + mm S 24 s, 0, i, s)] else []) := rfl
    rw [e, List.length_append, rds_len S b i o n s]
    show _ = sum0 (rcn S b o n) s + rcn S b o n s
    unfold rcn
    by_cases h : mm S 22 s = nI b ∧ o < mm S 23 s ∧ mm S 23 s ≤ n
    · rw [if_pos h, if_pos h]; rfl
    · rw [if_neg h, if_neg h]; rfl
theorem to_ge (S : St) (b : Nat) (most : Int32) (i : Nat) : mm S 15 i ≤ toS S b most i := by
  unfold toS
  simp only []
  rw [Int32.le_iff_toInt_le, i32_max]
  omega
theorem mm_mv1 (S : St) (b : Nat) (most : Int32) (i : Nat) : mm (mv1S S b most i) = mm (um (um S 19 i (expS S b i)) 15 i (toS S b most i)) := by
  unfold mv1S waitS; rw [mm_uw]
theorem eds_mv1 (S : St) (b : Nat) (most : Int32) (i : Nat) : eds (mv1S S b most i) = eds S := by
  unfold mv1S waitS; rw [eds_uw, eds_um, eds_um]
theorem nT_mv1 (S : St) (b : Nat) (most : Int32) (i : Nat) : nT (mv1S S b most i) = nT S := by
  unfold mv1S waitS; rw [nT_uw, nT_um, nT_um]
theorem phi_mv1 {S : St} (hS : okS S) {b i : Nat} (him : i ∈ rr S b) (most : Int32) : Phi (mv1S S b most i) ≤ Phi S := by
  obtain ⟨-, i1, i2', i3, i4, -, b8, -⟩ := in_row hS him
  have hT := hS.1.2.1
  have h4 := hS.1.2.2
  have em : ∀ k, k ≠ 15 → k ≠ 19 → mm (mv1S S b most i) k = mm S k := fun k h1 h2 => by rw [mm_mv1]; exact st_sub (expS S b i) (toS S b most i) h1 h2
  have e15 : ∀ a, mm (mv1S S b most i) 15 a = if a = i then toS S b most i else mm S 15 a := fun a => by
    rw [mm_mv1, mm_um]
    by_cases h : a = i
    · rw [if_pos ⟨rfl, h⟩, if_pos h]
    · rw [if_neg (fun z => h z.2), if_neg h, mm_um_ne _ _ _ (by decide)]
  refine phi_one (j := i) i1 (by omega) (fun a hai a1 a2 => ?_) ?_
  · unfold potI ah4 ahS bn sbn
    rw [e15, if_neg hai, em 13 (by decide) (by decide), em 14 (by decide) (by decide), em 22 (by decide) (by decide), em 23 (by decide) (by decide)]
    exact Nat.le_refl _
  · have bi : bn S i = b := by unfold bn; rw [i4]; exact nI_clamp (by omega)
    have bi' : bn (mv1S S b most i) i = b := by unfold bn; rw [em 14 (by decide) (by decide), i4]; exact nI_clamp (by omega)
    have hge := to_ge S b most i
    have en : nS (mv1S S b most i) = nS S := nS_mv1 S b most i
    have ah : ∀ s, ahS (mv1S S b most i) i s ≤ ahS S i s ∧ (s < nS S → ahS (mv1S S b most i) i s + rcn S b (mm S 15 i) (toS S b most i) s ≤ ahS S i s) := fun s => by
      have es : sbn (mv1S S b most i) s = sbn S s := by unfold sbn; rw [em 22 (by decide) (by decide)]
      have e1 : ahS (mv1S S b most i) i s = if nS S ≤ s ∨ b < sbn S s ∨ (b = sbn S s ∧ toS S b most i < mm S 23 s) then 1 else 0 := by
        unfold ahS; rw [bi', es, en, e15, if_pos rfl, em 23 (by decide) (by decide)]
      have e2 : ahS S i s = if nS S ≤ s ∨ b < sbn S s ∨ (b = sbn S s ∧ mm S 15 i < mm S 23 s) then 1 else 0 := by
        unfold ahS; rw [bi]
      have imp : (nS S ≤ s ∨ b < sbn S s ∨ (b = sbn S s ∧ toS S b most i < mm S 23 s)) → (nS S ≤ s ∨ b < sbn S s ∨ (b = sbn S s ∧ mm S 15 i < mm S 23 s)) := fun z => by
        rcases z with z | z | ⟨z1, z2⟩
        · exact Or.inl z
        · exact Or.inr (Or.inl z)
        · exact Or.inr (Or.inr ⟨z1, Int32.lt_of_le_of_lt hge z2⟩)
      rw [e1, e2]
      unfold rcn
      by_cases hA : nS S ≤ s ∨ b < sbn S s ∨ (b = sbn S s ∧ toS S b most i < mm S 23 s)
      · rw [if_pos hA, if_pos (imp hA)]
        refine ⟨Nat.le_refl _, fun hs => ?_⟩
        rw [if_neg (fun z => ?_)]
        · exact Nat.le_refl _
        · have hsb : sbn S s = b := by unfold sbn; rw [z.1]; exact nI_clamp (by omega)
          rcases hA with y | y | ⟨y1, y2⟩
          · omega
          · omega
          · exact absurd z.2.2 (Int32.not_le.mpr y2)
      · rw [if_neg hA]
        refine ⟨Nat.zero_le _, fun hs => ?_⟩
        by_cases hB : mm S 22 s = nI b ∧ mm S 15 i < mm S 23 s ∧ mm S 23 s ≤ toS S b most i
        · have hsb : sbn S s = b := by unfold sbn; rw [hB.1]; exact nI_clamp (by omega)
          rw [if_pos hB, if_pos (Or.inr (Or.inr ⟨hsb.symm, hB.2.1⟩))]
          exact Nat.le_refl _
        · rw [if_neg hB]; exact Nat.zero_le _
    have key : ah4 (mv1S S b most i) i + (rdsS S b i (mm S 15 i) (toS S b most i) (nS S)).length ≤ ah4 S i := by
      rw [rds_len]
      have a0 := ah 0
      have a1 := ah 1
      have a2 := ah 2
      have a3 := ah 3
      unfold ah4
      have hcase : nS S = 0 ∨ nS S = 1 ∨ nS S = 2 ∨ nS S = 3 ∨ nS S = 4 := by omega
      rcases hcase with z | z | z | z | z
      · rw [z]
        show _ + 0 ≤ _
        omega
      · have b0 := a0.2 (by omega)
        rw [z]
        show _ + (0 + rcn S b (mm S 15 i) (toS S b most i) 0) ≤ _
        omega
      · have b0 := a0.2 (by omega)
        have b1 := a1.2 (by omega)
        rw [z]
        show _ + (0 + rcn S b (mm S 15 i) (toS S b most i) 0 + rcn S b (mm S 15 i) (toS S b most i) 1) ≤ _
        omega
      · have b0 := a0.2 (by omega)
        have b1 := a1.2 (by omega)
        have b2 := a2.2 (by omega)
        rw [z]
        show _ + (0 + rcn S b (mm S 15 i) (toS S b most i) 0 + rcn S b (mm S 15 i) (toS S b most i) 1 + rcn S b (mm S 15 i) (toS S b most i) 2) ≤ _
        omega
      · have b0 := a0.2 (by omega)
        have b1 := a1.2 (by omega)
        have b2 := a2.2 (by omega)
        have b3 := a3.2 (by omega)
        rw [z]
        show _ + (0 + rcn S b (mm S 15 i) (toS S b most i) 0 + rcn S b (mm S 15 i) (toS S b most i) 1 + rcn S b (mm S 15 i) (toS S b most i) 2 + rcn S b (mm S 15 i) (toS S b most i) 3) ≤ _
        omega
    have eT : nT (mv1S S b most i) = nT S := nT_mv1 S b most i
    have p1 : potI (mv1S S b most i) i = ah4 (mv1S S b most i) i + (8 - b) := by
      unfold potI
      rw [eT, if_neg (show ¬ nT S < i by omega), em 13 (by decide) (by decide), if_pos i3, bi']
    have p0 : potI S i = ah4 S i + (8 - b) := by
      unfold potI
      rw [if_neg (show ¬ nT S < i by omega), if_pos i3, bi]
    have l1 : eds (mv1S S b most i) = eds S := eds_mv1 S b most i
    rw [p1, p0, l1, wts_mv1, List.length_append]
    omega
theorem phi_mvL {b : Nat} : ∀ (l : List Nat) (S : St) (p : Option Nat), okS S → (∀ i ∈ l, i ∈ rr S b) → Phi (mvLS S b p l) ≤ Phi S
  | [], S, p, _, _ => by unfold mvLS; exact Nat.le_refl _
  | i :: t, S, p, hS, hl => by
    unfold mvLS
    have him := hl i List.mem_cons_self
    have h1 := phi_mv1 hS him (mostS S b p)
    have hi := in_row hS him
    have h2 := phi_mvL (b := b) t (mv1S S b (mostS S b p) i) (some i) (ok_mv1 hS (by omega)) (fun j hj => hl j (List.mem_cons_of_mem _ hj))
    omega
theorem phi_mvAll {S : St} (hS : okS S) : ∀ n, Phi (mvAllS S n) ≤ Phi S
  | 0 => Nat.le_refl _
  | n + 1 => by
    have h1 := phi_mvAll hS n
    by_cases hz : mm (mvAllS S n) 6 n = 0
    · rw [mvAll_no hz]; exact h1
    · rw [mvAll_go hz]
      have := phi_mvL (b := n) (rr (mvAllS S n) n) (mvAllS S n) none (ok_mvAll hS n) (fun i hi => hi)
      unfold moveS
      omega
theorem phi_exAll : ∀ (n : Nat) (S : St), okS S → n ≤ nB S → Phi (exAllS S n) ≤ Phi S
  | 0, S, _, _ => Nat.le_refl _
  | n + 1, S, hS, hn => by
    by_cases hz : mm S 6 n = 0
    · rw [exAll_no hz]; exact phi_exAll n S hS (by omega)
    · rw [exAll_go hz]
      have h1 := phi_out hS (b := n) (by omega)
      have h2 := phi_pass (ok_out hS (b := n) (by omega)) (b := n) (by rw [nB_out]; omega)
      have h3 := phi_exAll n (exchS S n) (ok_exch hS (by omega)) (by rw [nB_exch]; omega)
      have e : exchS S n = passS (outS S n) n := rfl
      rw [← e] at h2
      omega
theorem phi_sec {S : St} (hS : okS S) : Phi (secS S) ≤ Phi S := by
  have h1 := phi_tick S
  have h2 := phi_read (tickS S)
  have okr := ok_read (ok_tick hS)
  have h3 := phi_exAll (nB S) (readS (tickS S)) okr (Nat.le_refl _)
  have h4 := phi_mvAll (ok_exAll (nB S) (readS (tickS S)) okr (Nat.le_refl _)).1 (nB S)
  unfold secS
  omega
theorem phi_steps {S : St} (hS : okS S) : ∀ n, Phi (stepsS S n) ≤ Phi S
  | 0 => Nat.le_refl _
  | n + 1 => by
    have h1 := phi_steps hS n
    have h2 := phi_sec (ok_steps hS n).1
    have e : stepsS S (n + 1) = secS (stepsS S n) := rfl
    rw [e]
    omega
theorem few_of_phi {S : St} (hS : okS S) (h : Phi S < 2900) (n : Nat) : fewS S n := fun j _ => by
  have h1 := phi_steps hS j
  have h2 : (eds (stepsS S j)).length + (wts (stepsS S j)).length ≤ Phi (stepsS S j) := by unfold Phi; omega
  omega
