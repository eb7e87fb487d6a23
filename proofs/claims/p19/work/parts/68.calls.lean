section
/-! HOW MANY EDGES THERE CAN BE: what is told, what waits, and what each item can still bring -/
def bn (S : St) (i : Nat) : Nat := (mm S 14 i).toNatClampNeg
def sbn (S : St) (s : Nat) : Nat := (mm S 22 s).toNatClampNeg
def ahS (S : St) (i s : Nat) : Nat := if nS S ≤ s ∨ bn S i < sbn S s ∨ (bn S i = sbn S s ∧ mm S 15 i < mm S 23 s) then 1 else 0
def ah4 (S : St) (i : Nat) : Nat := ahS S i 0 + ahS S i 1 + ahS S i 2 + ahS S i 3
def potI (S : St) (i : Nat) : Nat := if nT S < i then 12 else if mm S 13 i = 0 then ah4 S i + (8 - bn S i) else 0
def sm (f : Nat → Nat) : Nat → Nat
  | 0 => 0
  | n + 1 => sm f n + f (n + 1)
def Phi (S : St) : Nat := (eds S).length + (wts S).length + sm (potI S) 60
theorem sm_le {f g : Nat → Nat} : ∀ n, (∀ i, 1 ≤ i → i ≤ n → f i ≤ g i) → sm f n ≤ sm g n
  | 0, _ => Nat.le_refl _
  | n + 1, h => by
    have h1 := sm_le n (fun i a b => h i a (by omega))
    have h2 := h (n + 1) (by omega) (Nat.le_refl _)
    show sm f n + f (n + 1) ≤ sm g n + g (n + 1)
    omega
theorem sm_one {f g : Nat → Nat} {j : Nat} : ∀ n, (∀ i, i ≠ j → 1 ≤ i → i ≤ n → f i ≤ g i) → 1 ≤ j → j ≤ n → sm f n + g j ≤ sm g n + f j
  | 0, _, h1, h2 => by omega
  | n + 1, h, h1, h2 => by
    show sm f n + f (n + 1) + g j ≤ sm g n + g (n + 1) + f j
    by_cases hj : j = n + 1
    · have := sm_le n (f := f) (g := g) (fun i a b => h i (by omega) a (by omega))
      rw [hj]; omega
    · have := sm_one (f := f) (g := g) (j := j) n (fun i a b c => h i a b (by omega)) h1 (by omega)
      have := h (n + 1) (Ne.symm hj) (by omega) (Nat.le_refl _)
      omega
theorem phi_same {S S' : St} (hl : (eds S').length + (wts S').length ≤ (eds S).length + (wts S).length) (hp : ∀ i, 1 ≤ i → i ≤ 60 → potI S' i ≤ potI S i) : Phi S' ≤ Phi S := by
  have := sm_le 60 hp
  unfold Phi; omega
theorem phi_one {S S' : St} {j : Nat} (j1 : 1 ≤ j) (j2 : j ≤ 60) (hp : ∀ i, i ≠ j → 1 ≤ i → i ≤ 60 → potI S' i ≤ potI S i) (hl : (eds S').length + (wts S').length + potI S' j ≤ (eds S).length + (wts S).length + potI S j) : Phi S' ≤ Phi S := by
  have := sm_one 60 hp j1 j2
  unfold Phi; omega
theorem pot_eq {S S' : St} (hT : nT S' = nT S) (hs : nS S' = nS S) (e13 : mm S' 13 = mm S 13) (e14 : mm S' 14 = mm S 14) (e15 : mm S' 15 = mm S 15) (e22 : mm S' 22 = mm S 22) (e23 : mm S' 23 = mm S 23) (i : Nat) : potI S' i = potI S i := by
  unfold potI ah4 ahS bn sbn
  rw [hT, hs, e13, e14, e15, e22, e23]
theorem ah_le (S : St) (i s : Nat) : ahS S i s ≤ 1 := by
  unfold ahS
  by_cases h : nS S ≤ s ∨ bn S i < sbn S s ∨ (bn S i = sbn S s ∧ mm S 15 i < mm S 23 s)
  · rw [if_pos h]; exact Nat.le_refl _
  · rw [if_neg h]; omega
theorem ah4_le (S : St) (i : Nat) : ah4 S i ≤ 4 := by
  have h0 := ah_le S i 0
  have h1 := ah_le S i 1
  have h2 := ah_le S i 2
  have h3 := ah_le S i 3
  unfold ah4; omega
theorem phi_tick (S : St) : Phi (tickS S) ≤ Phi S := phi_same (Nat.le_refl _) (fun i _ _ => Nat.le_of_eq (pot_eq rfl rfl (mm_um_ne S 0 _ (by decide)) (mm_um_ne S 0 _ (by decide)) (mm_um_ne S 0 _ (by decide)) (mm_um_ne S 0 _ (by decide)) (mm_um_ne S 0 _ (by decide)) i))
theorem phi_read (S : St) : Phi (readS S) ≤ Phi S := by
  refine phi_same ?_ (fun i _ _ => Nat.le_of_eq (pot_eq rfl rfl rfl rfl rfl rfl rfl i))
  rw [eds_read, wts_read, List.length_append]
  have := part_len (mm S 1 0) (wts S)
  omega
theorem phi_out {S : St} (hS : okS S) {b : Nat} (hb : b < nB S) : Phi (outS S b) ≤ Phi S := by
  unfold outS
  cases ha : atEndS S b with
  | none => exact Nat.le_refl _
  | some i => cases hg : goesS S b i with
    | some k => simp only [hg]; exact Nat.le_refl _
    | none =>
      simp only [hg]
      obtain ⟨t, ht, -⟩ := atEnd_some ha
      have hi := in_row hS (show i ∈ rr S b by rw [ht]; exact List.mem_cons_self)
      obtain ⟨-, i1, i2', i3, i4, -, b8, -⟩ := hi
      have hT := hS.1.2.1
      have em : ∀ k, k ≠ 13 → k ≠ 30 → mm (tellS (um (ug (um (ur S b ((rr S b).eraseIdx 0)) 13 i 1) (gos S ++ [i])) 30 0 (mm S 30 0 + (mm S 1 0 - mm S 20 i))) (mm S 1 0, 1, i, b)) k = mm S k := fun k h1 h2 => by
        show mm (um (ug (um (ur S b ((rr S b).eraseIdx 0)) 13 i 1) (gos S ++ [i])) 30 0 (mm S 30 0 + (mm S 1 0 - mm S 20 i))) k = mm S k
        rw [mm_um_ne _ _ _ h2, mm_ug, mm_um_ne _ _ _ h1, mm_ur]
      have e13 : ∀ a, mm (tellS (um (ug (um (ur S b ((rr S b).eraseIdx 0)) 13 i 1) (gos S ++ [i])) 30 0 (mm S 30 0 + (mm S 1 0 - mm S 20 i))) (mm S 1 0, 1, i, b)) 13 a = if a = i then 1 else mm S 13 a := fun a => by
        show mm (um (ug (um (ur S b ((rr S b).eraseIdx 0)) 13 i 1) (gos S ++ [i])) 30 0 (mm S 30 0 + (mm S 1 0 - mm S 20 i))) 13 a = _
        rw [mm_um_ne _ _ _ (by decide), mm_ug, mm_um]
        by_cases h : a = i
        · rw [if_pos ⟨rfl, h⟩, if_pos h]
        · rw [if_neg (fun z => h z.2), if_neg h, mm_ur]
      refine phi_one (j := i) i1 (by omega) (fun a hai a1 a2 => ?_) ?_
      · unfold potI ah4 ahS bn sbn
        rw [e13, if_neg hai, em 14 (by decide) (by decide), em 15 (by decide) (by decide), em 22 (by decide) (by decide), em 23 (by decide) (by decide)]
        exact Nat.le_refl _
      · have p1 : potI (tellS (um (ug (um (ur S b ((rr S b).eraseIdx 0)) 13 i 1) (gos S ++ [i])) 30 0 (mm S 30 0 + (mm S 1 0 - mm S 20 i))) (mm S 1 0, 1, i, b)) i = 0 := by
          unfold potI
          have eT : nT (tellS (um (ug (um (ur S b ((rr S b).eraseIdx 0)) 13 i 1) (gos S ++ [i])) 30 0 (mm S 30 0 + (mm S 1 0 - mm S 20 i))) (mm S 1 0, 1, i, b)) = nT S := rfl
          rw [e13, if_pos rfl, eT, if_neg (show ¬ nT S < i by omega), if_neg (by decide)]
        have p0 : 1 ≤ potI S i := by
          unfold potI bn
          rw [if_neg (show ¬ nT S < i by omega), if_pos i3, i4, nI_clamp (by omega)]
          omega
        have l1 : (eds (tellS (um (ug (um (ur S b ((rr S b).eraseIdx 0)) 13 i 1) (gos S ++ [i])) 30 0 (mm S 30 0 + (mm S 1 0 - mm S 20 i))) (mm S 1 0, 1, i, b))).length = (eds S).length + 1 := by
          unfold tellS; rw [eds_ue, eds_um, eds_ug, eds_um, eds_ur]; simp
        have l2 : wts (tellS (um (ug (um (ur S b ((rr S b).eraseIdx 0)) 13 i 1) (gos S ++ [i])) 30 0 (mm S 30 0 + (mm S 1 0 - mm S 20 i))) (mm S 1 0, 1, i, b)) = wts S := rfl
        rw [p1, l1, l2]; omega
theorem phi_pass {S : St} (hS : okS S) {b : Nat} (hb : b < nB S) : Phi (passS S b) ≤ Phi S := by
  unfold passS
  by_cases hz : 0 < missS S b
  · rw [if_pos hz]; exact Nat.le_refl _
  · rw [if_neg hz]
    cases hg : giverS S b b with
    | none => exact Nat.le_refl _
    | some k =>
      obtain ⟨x, hx, hk⟩ := giver_some b k hg
      obtain ⟨j, t, ht, -, -, ⟨y, hy, hky⟩, -, -⟩ := cand_some hS hk
      have hk2 : k / 2 = x := by omega
      simp only [hk2, ht]
      obtain ⟨-, j1, j2, j3, j4, -, x8, -⟩ := in_row hS (show j ∈ rr S x by rw [ht]; exact List.mem_cons_self)
      have hT := hS.1.2.1
      have hb8 := hS.1.1
      have em : ∀ c, c ≠ 14 ∧ c ≠ 15 ∧ c ≠ 17 ∧ c ≠ 18 ∧ c ≠ 19 → c ≠ 9 → mm (tellS (comeS (um (ur S x t) 9 k (mm S 9 k + 1)) j b) (mm S 1 0, 2, j, b)) c = mm S c := fun c h1 h2 => by
        show mm (comeS (um (ur S x t) 9 k (mm S 9 k + 1)) j b) c = mm S c
        rw [mm_come _ _ _ h1, mm_um_ne _ _ _ h2, mm_ur]
      have e14 : ∀ a, mm (tellS (comeS (um (ur S x t) 9 k (mm S 9 k + 1)) j b) (mm S 1 0, 2, j, b)) 14 a = if a = j then nI b else mm S 14 a := fun a => by
        show mm (comeS (um (ur S x t) 9 k (mm S 9 k + 1)) j b) 14 a = _
        rw [mm14_come, mm_um_ne _ _ _ (by decide), mm_ur]
      have e15 : ∀ a, mm (tellS (comeS (um (ur S x t) 9 k (mm S 9 k + 1)) j b) (mm S 1 0, 2, j, b)) 15 a = if a = j then 0 else mm S 15 a := fun a => by
        show mm (comeS (um (ur S x t) 9 k (mm S 9 k + 1)) j b) 15 a = _
        rw [mm15_come, mm_um_ne _ _ _ (by decide), mm_ur]
      refine phi_one (j := j) j1 (by omega) (fun a haj a1 a2 => ?_) ?_
      · unfold potI ah4 ahS bn sbn
        rw [e14, e15, if_neg haj, if_neg haj, em 13 (by decide) (by decide), em 22 (by decide) (by decide), em 23 (by decide) (by decide)]
        exact Nat.le_refl _
      · have bj : bn S j = x := by unfold bn; rw [j4]; exact nI_clamp (by omega)
        have bj' : bn (tellS (comeS (um (ur S x t) 9 k (mm S 9 k + 1)) j b) (mm S 1 0, 2, j, b)) j = b := by unfold bn; rw [e14, if_pos rfl]; exact nI_clamp (by omega)
        have ah : ∀ s, ahS (tellS (comeS (um (ur S x t) 9 k (mm S 9 k + 1)) j b) (mm S 1 0, 2, j, b)) j s ≤ ahS S j s := fun s => by
          unfold ahS
          have es : sbn (tellS (comeS (um (ur S x t) 9 k (mm S 9 k + 1)) j b) (mm S 1 0, 2, j, b)) s = sbn S s := by unfold sbn; rw [em 22 (by decide) (by decide)]
          have en : nS (tellS (comeS (um (ur S x t) 9 k (mm S 9 k + 1)) j b) (mm S 1 0, 2, j, b)) = nS S := rfl
          rw [bj', bj, es, en]
          by_cases h : nS S ≤ s ∨ x < sbn S s ∨ (x = sbn S s ∧ mm S 15 j < mm S 23 s)
          · rw [if_pos h]
            by_cases h2 : nS S ≤ s ∨ b < sbn S s ∨ b = sbn S s ∧ mm (tellS (comeS (um (ur S x t) 9 k (mm S 9 k + 1)) j b) (mm S 1 0, 2, j, b)) 15 j < mm (tellS (comeS (um (ur S x t) 9 k (mm S 9 k + 1)) j b) (mm S 1 0, 2, j, b)) 23 s
            · rw [if_pos h2]; exact Nat.le_refl _
            · rw [if_neg h2]; omega
          · rw [if_neg h, if_neg (fun h2 => h (by
              rcases h2 with z | z | z
              · exact Or.inl z
              · exact Or.inr (Or.inl (by omega))
              · exact Or.inr (Or.inl (by omega))))]
            exact Nat.le_refl _
        have p1 : potI (tellS (comeS (um (ur S x t) 9 k (mm S 9 k + 1)) j b) (mm S 1 0, 2, j, b)) j + 1 ≤ potI S j := by
          unfold potI
          have eT : nT (tellS (comeS (um (ur S x t) 9 k (mm S 9 k + 1)) j b) (mm S 1 0, 2, j, b)) = nT S := rfl
          rw [eT, bj', bj, em 13 (by decide) (by decide), if_pos j3, if_pos j3, if_neg (show ¬ nT S < j by omega), if_neg (show ¬ nT S < j by omega)]
          have a0 := ah 0
          have a1 := ah 1
          have a2 := ah 2
          have a3 := ah 3
          unfold ah4
          omega
        have l1 : (eds (tellS (comeS (um (ur S x t) 9 k (mm S 9 k + 1)) j b) (mm S 1 0, 2, j, b))).length = (eds S).length + 1 := by
          unfold tellS; rw [eds_ue, eds_come, eds_um, eds_ur]; simp
        have l2 : wts (tellS (comeS (um (ur S x t) 9 k (mm S 9 k + 1)) j b) (mm S 1 0, 2, j, b)) = wts S := rfl
        rw [l1, l2]; omega
end
section
/-! HOW MANY EDGES THERE CAN BE: items that move; a second -/
def rcn (S : St) (b : Nat) (o n : Int32) (s : Nat) : Nat := if mm S 22 s = nI b ∧ o < mm S 23 s ∧ mm S 23 s ≤ n then 1 else 0
def sum0 (f : Nat → Nat) : Nat → Nat
  | 0 => 0
  | n + 1 => sum0 f n + f n
theorem rds_len (S : St) (b i : Nat) (o n : Int32) : ∀ s, (rdsS S b i o n s).length = sum0 (rcn S b o n) s
  | 0 => rfl
  | s + 1 => by
    have e : rdsS S b i o n (s + 1) = rdsS S b i o n s ++ (if mm S 22 s = nI b ∧ o < mm S 23 s ∧ mm S 23 s ≤ n then [(mm S 1 0 + mm S 24 s, 0, i, s)] else []) := rfl
    rw [e, List.length_append, rds_len S b i o n s]
    show _ = sum0 (rcn S b o n) s + rcn S b o n s
    unfold rcn
    by_cases h : mm S 22 s = nI b ∧ o < mm S 23 s ∧ mm S 23 s ≤ n
    · rw [if_pos h, if_pos h]; rfl
    · rw [if_neg h, if_neg h]; rfl
theorem to_ge (S : St) (b : Nat) (most : Int32) (i : Nat) : mm S 15 i ≤ toS S b most i := by
  unfold toS
  simp only []
  rw [Int32.le_iff_toInt_le, i32_max]
  omega
theorem mm_mv1 (S : St) (b : Nat) (most : Int32) (i : Nat) : mm (mv1S S b most i) = mm (um (um S 19 i (expS S b i)) 15 i (toS S b most i)) := by
  unfold mv1S waitS; rw [mm_uw]
theorem eds_mv1 (S : St) (b : Nat) (most : Int32) (i : Nat) : eds (mv1S S b most i) = eds S := by
  unfold mv1S waitS; rw [eds_uw, eds_um, eds_um]
theorem nT_mv1 (S : St) (b : Nat) (most : Int32) (i : Nat) : nT (mv1S S b most i) = nT S := by
  unfold mv1S waitS; rw [nT_uw, nT_um, nT_um]
theorem phi_mv1 {S : St} (hS : okS S) {b i : Nat} (him : i ∈ rr S b) (most : Int32) : Phi (mv1S S b most i) ≤ Phi S := by
  obtain ⟨-, i1, i2', i3, i4, -, b8, -⟩ := in_row hS him
  have hT := hS.1.2.1
  have h4 := hS.1.2.2
  have em : ∀ k, k ≠ 15 → k ≠ 19 → mm (mv1S S b most i) k = mm S k := fun k h1 h2 => by rw [mm_mv1]; exact st_sub (expS S b i) (toS S b most i) h1 h2
  have e15 : ∀ a, mm (mv1S S b most i) 15 a = if a = i then toS S b most i else mm S 15 a := fun a => by
    rw [mm_mv1, mm_um]
    by_cases h : a = i
    · rw [if_pos ⟨rfl, h⟩, if_pos h]
    · rw [if_neg (fun z => h z.2), if_neg h, mm_um_ne _ _ _ (by decide)]
  refine phi_one (j := i) i1 (by omega) (fun a hai a1 a2 => ?_) ?_
  · unfold potI ah4 ahS bn sbn
    rw [e15, if_neg hai, em 13 (by decide) (by decide), em 14 (by decide) (by decide), em 22 (by decide) (by decide), em 23 (by decide) (by decide)]
    exact Nat.le_refl _
  · have bi : bn S i = b := by unfold bn; rw [i4]; exact nI_clamp (by omega)
    have bi' : bn (mv1S S b most i) i = b := by unfold bn; rw [em 14 (by decide) (by decide), i4]; exact nI_clamp (by omega)
    have hge := to_ge S b most i
    have en : nS (mv1S S b most i) = nS S := nS_mv1 S b most i
    have ah : ∀ s, ahS (mv1S S b most i) i s ≤ ahS S i s ∧ (s < nS S → ahS (mv1S S b most i) i s + rcn S b (mm S 15 i) (toS S b most i) s ≤ ahS S i s) := fun s => by
      have es : sbn (mv1S S b most i) s = sbn S s := by unfold sbn; rw [em 22 (by decide) (by decide)]
      have e1 : ahS (mv1S S b most i) i s = if nS S ≤ s ∨ b < sbn S s ∨ (b = sbn S s ∧ toS S b most i < mm S 23 s) then 1 else 0 := by
        unfold ahS; rw [bi', es, en, e15, if_pos rfl, em 23 (by decide) (by decide)]
      have e2 : ahS S i s = if nS S ≤ s ∨ b < sbn S s ∨ (b = sbn S s ∧ mm S 15 i < mm S 23 s) then 1 else 0 := by
        unfold ahS; rw [bi]
      have imp : (nS S ≤ s ∨ b < sbn S s ∨ (b = sbn S s ∧ toS S b most i < mm S 23 s)) → (nS S ≤ s ∨ b < sbn S s ∨ (b = sbn S s ∧ mm S 15 i < mm S 23 s)) := fun z => by
        rcases z with z | z | ⟨z1, z2⟩
        · exact Or.inl z
        · exact Or.inr (Or.inl z)
        · exact Or.inr (Or.inr ⟨z1, Int32.lt_of_le_of_lt hge z2⟩)
      rw [e1, e2]
      unfold rcn
      by_cases hA : nS S ≤ s ∨ b < sbn S s ∨ (b = sbn S s ∧ toS S b most i < mm S 23 s)
      · rw [if_pos hA, if_pos (imp hA)]
        refine ⟨Nat.le_refl _, fun hs => ?_⟩
        rw [if_neg (fun z => ?_)]
        · exact Nat.le_refl _
        · have hsb : sbn S s = b := by unfold sbn; rw [z.1]; exact nI_clamp (by omega)
          rcases hA with y | y | ⟨y1, y2⟩
          · omega
          · omega
          · exact absurd z.2.2 (Int32.not_le.mpr y2)
      · rw [if_neg hA]
        refine ⟨Nat.zero_le _, fun hs => ?_⟩
        by_cases hB : mm S 22 s = nI b ∧ mm S 15 i < mm S 23 s ∧ mm S 23 s ≤ toS S b most i
        · have hsb : sbn S s = b := by unfold sbn; rw [hB.1]; exact nI_clamp (by omega)
          rw [if_pos hB, if_pos (Or.inr (Or.inr ⟨hsb.symm, hB.2.1⟩))]
          exact Nat.le_refl _
        · rw [if_neg hB]; exact Nat.zero_le _
    have key : ah4 (mv1S S b most i) i + (rdsS S b i (mm S 15 i) (toS S b most i) (nS S)).length ≤ ah4 S i := by
      rw [rds_len]
      have a0 := ah 0
      have a1 := ah 1
      have a2 := ah 2
      have a3 := ah 3
      unfold ah4
      have hcase : nS S = 0 ∨ nS S = 1 ∨ nS S = 2 ∨ nS S = 3 ∨ nS S = 4 := by omega
      rcases hcase with z | z | z | z | z
      · rw [z]
        show _ + 0 ≤ _
        omega
      · have b0 := a0.2 (by omega)
        rw [z]
        show _ + (0 + rcn S b (mm S 15 i) (toS S b most i) 0) ≤ _
        omega
      · have b0 := a0.2 (by omega)
        have b1 := a1.2 (by omega)
        rw [z]
        show _ + (0 + rcn S b (mm S 15 i) (toS S b most i) 0 + rcn S b (mm S 15 i) (toS S b most i) 1) ≤ _
        omega
      · have b0 := a0.2 (by omega)
        have b1 := a1.2 (by omega)
        have b2 := a2.2 (by omega)
        rw [z]
        show _ + (0 + rcn S b (mm S 15 i) (toS S b most i) 0 + rcn S b (mm S 15 i) (toS S b most i) 1 + rcn S b (mm S 15 i) (toS S b most i) 2) ≤ _
        omega
      · have b0 := a0.2 (by omega)
        have b1 := a1.2 (by omega)
        have b2 := a2.2 (by omega)
        have b3 := a3.2 (by omega)
        rw [z]
        show _ + (0 + rcn S b (mm S 15 i) (toS S b most i) 0 + rcn S b (mm S 15 i) (toS S b most i) 1 + rcn S b (mm S 15 i) (toS S b most i) 2 + rcn S b (mm S 15 i) (toS S b most i) 3) ≤ _
        omega
    have eT : nT (mv1S S b most i) = nT S := nT_mv1 S b most i
    have p1 : potI (mv1S S b most i) i = ah4 (mv1S S b most i) i + (8 - b) := by
      unfold potI
      rw [eT, if_neg (show ¬ nT S < i by omega), em 13 (by decide) (by decide), if_pos i3, bi']
    have p0 : potI S i = ah4 S i + (8 - b) := by
      unfold potI
      rw [if_neg (show ¬ nT S < i by omega), if_pos i3, bi]
    have l1 : eds (mv1S S b most i) = eds S := eds_mv1 S b most i
    rw [p1, p0, l1, wts_mv1, List.length_append]
    omega
theorem phi_mvL {b : Nat} : ∀ (l : List Nat) (S : St) (p : Option Nat), okS S → (∀ i ∈ l, i ∈ rr S b) → Phi (mvLS S b p l) ≤ Phi S
  | [], S, p, _, _ => by unfold mvLS; exact Nat.le_refl _
  | i :: t, S, p, hS, hl => by
    unfold mvLS
    have him := hl i List.mem_cons_self
    have h1 := phi_mv1 hS him (mostS S b p)
    have hi := in_row hS him
    have h2 := phi_mvL (b := b) t (mv1S S b (mostS S b p) i) (some i) (ok_mv1 hS (by omega)) (fun j hj => hl j (List.mem_cons_of_mem _ hj))
    omega
theorem phi_mvAll {S : St} (hS : okS S) : ∀ n, Phi (mvAllS S n) ≤ Phi S
  | 0 => Nat.le_refl _
  | n + 1 => by
    have h1 := phi_mvAll hS n
    by_cases hz : mm (mvAllS S n) 6 n = 0
    · rw [mvAll_no hz]; exact h1
    · rw [mvAll_go hz]
      have := phi_mvL (b := n) (rr (mvAllS S n) n) (mvAllS S n) none (ok_mvAll hS n) (fun i hi => hi)
      unfold moveS
      omega
theorem phi_exAll : ∀ (n : Nat) (S : St), okS S → n ≤ nB S → Phi (exAllS S n) ≤ Phi S
  | 0, S, _, _ => Nat.le_refl _
  | n + 1, S, hS, hn => by
    by_cases hz : mm S 6 n = 0
    · rw [exAll_no hz]; exact phi_exAll n S hS (by omega)
    · rw [exAll_go hz]
      have h1 := phi_out hS (b := n) (by omega)
      have h2 := phi_pass (ok_out hS (b := n) (by omega)) (b := n) (by rw [nB_out]; omega)
      have h3 := phi_exAll n (exchS S n) (ok_exch hS (by omega)) (by rw [nB_exch]; omega)
      have e : exchS S n = passS (outS S n) n := rfl
      rw [← e] at h2
      omega
theorem phi_sec {S : St} (hS : okS S) : Phi (secS S) ≤ Phi S := by
  have h1 := phi_tick S
  have h2 := phi_read (tickS S)
  have okr := ok_read (ok_tick hS)
  have h3 := phi_exAll (nB S) (readS (tickS S)) okr (Nat.le_refl _)
  have h4 := phi_mvAll (ok_exAll (nB S) (readS (tickS S)) okr (Nat.le_refl _)).1 (nB S)
  unfold secS
  omega
theorem phi_steps {S : St} (hS : okS S) : ∀ n, Phi (stepsS S n) ≤ Phi S
  | 0 => Nat.le_refl _
  | n + 1 => by
    have h1 := phi_steps hS n
    have h2 := phi_sec (ok_steps hS n).1
    have e : stepsS S (n + 1) = secS (stepsS S n) := rfl
    rw [e]
    omega
theorem few_of_phi {S : St} (hS : okS S) (h : Phi S < 2900) (n : Nat) : fewS S n := fun j _ => by
  have h1 := phi_steps hS j
  have h2 : (eds (stepsS S j)).length + (wts (stepsS S j)).length ≤ Phi (stepsS S j) := by unfold Phi; omega
  omega
end
section
/-! CALLS: belts and items are looked up -/
theorem ix_cases (x : Int32) {n : Nat} (hn : n < 2 ^ 31) : (∃ j, j < n ∧ x = nI j) ∨ (¬ (∃ j, j < n ∧ x = nI j) ∧ (x < 0 ∨ ¬ x < nI n)) := by
  rcases pk_ix x hn with h | h | h
  · right
    refine ⟨fun ⟨j, hj, hx⟩ => ?_, Or.inl h⟩
    rw [hx] at h
    exact nI_pos (by omega) h
  · right
    refine ⟨fun ⟨j, hj, hx⟩ => ?_, Or.inr (Int32.not_lt.mpr h)⟩
    rw [hx] at h
    exact nI_ge hj hn h
  · exact Or.inl h
/-- the items' numbers are 1 .. n -/
theorem it_cases (x : Int32) {n : Nat} (hn : n < 2 ^ 31 - 1) : (∃ j, 1 ≤ j ∧ j ≤ n ∧ x = nI j) ∨ (¬ (∃ j, 1 ≤ j ∧ j ≤ n ∧ x = nI j) ∧ (x < 1 ∨ ¬ x ≤ nI n)) := by
  rcases pk_ix x (n := n + 1) (by omega) with h | h | ⟨j, hj, hx⟩
  · right
    refine ⟨fun ⟨j, j1, j2, hx⟩ => ?_, Or.inl ?_⟩
    · rw [hx] at h
      exact nI_pos (by omega) h
    · rw [Int32.lt_iff_toInt_lt] at h ⊢
      have e1 : (1 : Int32).toInt = 1 := by decide
      have e0' : (0 : Int32).toInt = 0 := by decide
      omega
  · right
    refine ⟨fun ⟨j, j1, j2, hx⟩ => ?_, Or.inr (fun z => ?_)⟩
    · rw [hx] at h
      exact nI_ge (by omega) (by omega) h
    · exact nI_ge (a := n) (b := n + 1) (by omega) (by omega) (Int32.le_trans h z)
  · rcases Nat.eq_zero_or_pos j with z | z
    · right
      subst z
      refine ⟨fun ⟨i, i1, i2', hi⟩ => ?_, Or.inl (by rw [hx]; decide)⟩
      rw [hx] at hi
      have := (nI_eq (by omega) (by omega)).mp hi
      omega
    · exact Or.inl ⟨j, z, by omega, hx⟩
section CL
variable {e0 mi q : Nat} {P : Nat → Nat → Nat} {S : St} {w : Wd} {LE LW : List (Nat × Ed)}
theorem C_fb {x1 : Int32} {nc ns : Nat} {Q : Option Nat → Wd → Prop} {X : String → Wd → Prop} (R : RC e0 S w q P LE LW) (hS : okS S) (h1 : ¬ (∃ b, b < nB S ∧ x1 = nI b) → 1 ≤ nc ∧ 6 ≤ ns ∧ X "java/util/NoSuchElementException" w) (h0 : ∀ b, b < nB S → x1 = nI b → Q (some (P 0 b)) w) : wp_Br_findBelt e0 mi q x1 w nc ns Q X := by
  have hb8 := hS.1.1
  unfold wp_Br_findBelt wb_Br_findBelt_15
  rcases ix_cases x1 (n := nB S) (by omega) with ⟨b, hb, hx⟩ | ⟨hn, hz⟩
  · refine ⟨fun z => absurd z (by rw [hx]; exact nI_pos (by omega)), fun _ => ⟨R.1.1, C_size R (k := 0) (by decide) ?_⟩⟩
    rw [lsx0]
    refine ⟨fun _ => ⟨R.1.1, P 6 0, R.1.2.2.2.2 0 (by decide), (R.2.1.1 0 (by decide)).1, ?_⟩, fun z => absurd (by rw [hx]; exact nI_lt hb (by omega)) z⟩
    rw [hx]
    exact C_beltAt R hb ⟨fun a ha => (by cases ha; exact (R.2.2.1.1 b hb).1), h0 b hb hx⟩
  · refine ⟨fun _ => h1 hn, fun z => ⟨R.1.1, C_size R (k := 0) (by decide) ?_⟩⟩
    rw [lsx0]
    refine ⟨fun z2 => ?_, fun _ => h1 hn⟩
    rcases hz with y | y
    · exact absurd y z
    · exact absurd z2 y
theorem lsx1 (S : St) (P : Nat → Nat → Nat) (LE LW : List (Nat × Ed)) : (lsx S P LE LW 1).length = nT S := by simp [lsx]
theorem C_fi {x1 : Int32} {nc ns : Nat} {Q : Option Nat → Wd → Prop} {X : String → Wd → Prop} (R : RC e0 S w q P LE LW) (hS : okS S) (h1 : ¬ (∃ i, 1 ≤ i ∧ i ≤ nT S ∧ x1 = nI i) → 1 ≤ nc ∧ 6 ≤ ns ∧ X "java/util/NoSuchElementException" w) (h0 : ∀ i, 1 ≤ i → i ≤ nT S → x1 = nI i → Q (some (P 1 i)) w) : wp_Br_findItem e0 mi q x1 w nc ns Q X := by
  have hT := hS.1.2.1
  unfold wp_Br_findItem wb_Br_findItem_16
  rcases it_cases x1 (n := nT S) (by omega) with ⟨i, i1, i2', hx⟩ | ⟨hn, hz⟩
  · refine ⟨fun z => absurd z (by rw [hx]; exact nI_nlt (b := 1) i1 (by omega)), fun _ => ⟨R.1.1, C_size R (k := 1) (by decide) ?_⟩⟩
    rw [lsx1]
    refine ⟨fun _ => ⟨R.1.1, P 6 1, R.1.2.2.2.2 1 (by decide), (R.2.1.1 1 (by decide)).1, ?_⟩, fun z => absurd (by rw [hx]; exact nI_le i2' (by omega)) z⟩
    have e : x1 - 1 = nI (i - 1) := by rw [hx, show i = (i - 1) + 1 by omega, nI_pred]; simp
    rw [e]
    refine isK_get (R.2.1.1 1 (by decide)) (x := P 1 i) ?_ ⟨fun a ha => (by cases ha; exact (R.2.2.2.2.1.1 i i1 i2').1), h0 i i1 i2' hx⟩
    have := range_get (f := fun i => P 1 (i + 1)) (n := nT S) (j := i - 1) (by omega)
    rw [show i - 1 + 1 = i by omega] at this
    exact this
  · refine ⟨fun _ => h1 hn, fun z => ⟨R.1.1, C_size R (k := 1) (by decide) ?_⟩⟩
    rw [lsx1]
    refine ⟨fun z2 => ?_, fun _ => h1 hn⟩
    rcases hz with y | y
    · exact absurd y z
    · exact absurd z2 y
theorem C_on {i : Nat} {nc ns : Nat} {Q : Wd → Prop} {X : String → Wd → Prop} (R : RC e0 S w q P LE LW) (i1 : 1 ≤ i) (i2' : i ≤ nT S) (h1 : ¬ mm S 13 i = 0 → 1 ≤ nc ∧ 6 ≤ ns ∧ X "java/lang/IllegalStateException" w) (h0 : mm S 13 i = 0 → Q w) : wp_Br_checkOnBelt e0 mi (some (P 1 i)) w nc ns Q X := by
  unfold wp_Br_checkOnBelt
  have h5 := R.2.2.2.2.1.1 i i1 i2'
  refine ⟨P 1 i, rfl, h5.1, ?_⟩
  rw [h5.2.2.2.2.1]
  exact ⟨h0, h1⟩
end CL
section MO
variable {e0 mi m : Nat} {A : Nat → Nat} {S : St} {w : Wd}
theorem M_isBelt {x1 : Int32} {Q : Int32 → Wd → Prop} (h : RM S w m A) (hS : okS S) (h1 : ¬ (∃ b, b < nB S ∧ x1 = nI b) → Q 0 w) (h0 : ∀ b, b < nB S → x1 = nI b → Q 1 w) : wp_Mo_isBelt e0 mi m x1 w Q := by
  have hb8 := hS.1.1
  unfold wp_Mo_isBelt
  have l3 : wI w m 3 = nI (nB S) := h.2.2.1.1
  rw [l3]
  have key : rng x1 0 (nI (nB S) - 1) ↔ ∃ b, b < nB S ∧ x1 = nI b := by
    have e : (nI (nB S) - 1).toInt = (nB S : Int) - 1 := by
      have := pk_sub_toInt (a := nB S) (b := 1) (by omega) (by omega)
      exact this
    have e0' : (0 : Int32).toInt = 0 := by decide
    unfold rng
    rw [Int32.lt_iff_toInt_lt, Int32.lt_iff_toInt_lt, e, e0']
    constructor
    · intro z
      rcases ix_cases x1 (n := nB S) (by omega) with y | ⟨-, y⟩
      · exact y
      · exfalso
        rw [Int32.lt_iff_toInt_lt, Int32.lt_iff_toInt_lt, nI_toInt (by omega), e0'] at y
        omega
    · intro ⟨b, hb, hx⟩
      rw [hx, nI_toInt (by omega)]
      omega
  refine ⟨h.1.1, mo_in (fun z => ?_) (fun z => ⟨Or.inl rfl, h1 (fun y => z (key.mpr y))⟩)⟩
  obtain ⟨b, hb, hx⟩ := key.mp z
  exact ⟨Or.inr rfl, h0 b hb hx⟩
theorem M_isItem {x1 : Int32} {Q : Int32 → Wd → Prop} (h : RM S w m A) (hS : okS S) (h1 : ¬ (∃ i, 1 ≤ i ∧ i ≤ nT S ∧ x1 = nI i) → Q 0 w) (h0 : ∀ i, 1 ≤ i → i ≤ nT S → x1 = nI i → Q 1 w) : wp_Mo_isItem e0 mi m x1 w Q := by
  have hT := hS.1.2.1
  unfold wp_Mo_isItem
  have l12 : wI w m 12 = nI (nT S) := h.2.2.1.2.1
  rw [l12]
  have key : rng x1 1 (nI (nT S)) ↔ ∃ i, 1 ≤ i ∧ i ≤ nT S ∧ x1 = nI i := by
    unfold rng
    rcases it_cases x1 (n := nT S) (by omega) with ⟨i, i1, i2', hx⟩ | ⟨hn, hz⟩
    · refine ⟨fun _ => ⟨i, i1, i2', hx⟩, fun _ => ?_⟩
      rw [hx]
      exact ⟨nI_nlt (b := 1) i1 (by omega), nI_nlt i2' (by omega)⟩
    · refine ⟨fun y => ?_, fun y => absurd y hn⟩
      rcases hz with z | z
      · exact absurd z y.1
      · exact absurd (Int32.not_lt.mp y.2) z
  refine ⟨h.1.1, mo_in (fun z => ?_) (fun z => ⟨Or.inl rfl, h1 (fun y => z (key.mpr y))⟩)⟩
  obtain ⟨i, i1, i2', hx⟩ := key.mp z
  exact ⟨Or.inr rfl, h0 i i1 i2' hx⟩
end MO
end
section
/-! CALLS OF THE CLASS: run, gaps, divert, slip, take -/
section CL
variable {e0 mi q : Nat} {P : Nat → Nat → Nat} {S : St} {w : Wd} {LE LW : List (Nat × Ed)}
theorem RC_run {b : Nat} (R : RC e0 S w q P LE LW) (hS : okS S) (hb : b < nB S) (v on : Int32) : RC e0 (um (um S 5 b v) 6 b on) (sI (sI w (P 0 b) 2 v) (P 0 b) 3 on) q P LE LW ∧ FrC w (sI (sI w (P 0 b) 2 v) (P 0 b) 3 on) := by
  obtain ⟨r1, r2, r3, r4, r5, r6, r7, r8⟩ := R
  have h3b := (r3.1 b hb).1
  have K : Kp (fun x => x = P 0 b) w (sI (sI w (P 0 b) 2 v) (P 0 b) 3 on) := ((Kp.rfl (X := fun x => x = P 0 b)).sI (fun _ => rfl)).sI (fun _ => rfl)
  have kN : ∀ ci, ci ≠ 0 → ∀ a, bw_is w a ci → ¬ a = P 0 b := fun ci hci a ha => is_ne ha h3b hci
  have em : ∀ k, k ≠ 5 → k ≠ 6 → mm (um (um S 5 b v) 6 b on) k = mm S k := fun k h1 h2 => by rw [mm_um_ne _ _ _ h2, mm_um_ne _ _ _ h1]
  have e5 := c5_kp r5 K (kN 2 (by decide))
  have e6 := c6_kp r6 r5 hS K (kN 2 (by decide))
  refine ⟨⟨c1_eq (c1_kp r1 K (kN 5 (by decide))) (em 1 (by decide) (by decide)) (em 2 (by decide) (by decide)) (em 30 (by decide) (by decide)), c2_eq (c2_kp r2 K (kN 7 (by decide)) (kN 100 (by decide))) (fun _ => rfl) (fun _ => rfl), ⟨fun c hc => ?_, r3.2⟩, c4_eq (c4_kp r4 K (kN 4 (by decide))) rfl (em 7 (by decide) (by decide)) (em 8 (by decide) (by decide)) (em 9 (by decide) (by decide)), ?_, e6, c7_eq (c7_kp r7 K (kN 3 (by decide))) rfl rfl (em 22 (by decide) (by decide)) (em 23 (by decide) (by decide)) (em 24 (by decide) (by decide)), c8_eq (c8_kp r8 K (kN 1 (by decide))) rfl rfl⟩, K.frC (fun a ha z => by rw [z, h3b.2]; unfold kM; omega)⟩
  · replace hc : c < nB S := hc
    obtain ⟨q0, q1, q2, q3, q4, q5, q6, q7, q8, q9⟩ := r3.1 c hc
    rw [em 4 (by decide) (by decide)]
    by_cases hcb : c = b
    · subst hcb
      refine ⟨q0, ?_, ?_, ?_, ?_, ?_, q6, q7, q8, q9⟩
      · rw [pI_I, if_neg (fun y => by simp at y), pI_I, if_neg (fun y => by simp at y)]; exact q1
      · rw [pI_I, if_neg (fun y => by simp at y), pI_I, if_neg (fun y => by simp at y)]; exact q2
      · rw [pI_I, if_neg (fun y => by simp at y), pI_I, if_pos ⟨rfl, rfl⟩, mm_um_ne _ _ _ (by decide), mm_um_at]
      · rw [pI_I, if_pos ⟨rfl, rfl⟩, mm_um_at]
      · rw [pI_I, if_neg (fun y => by simp at y), pI_I, if_neg (fun y => by simp at y)]; exact q5
    · have hne : P 0 c ≠ P 0 b := fun z => hcb (r3.2 c b hc hb z)
      have ee : ∀ s, wI (sI (sI w (P 0 b) 2 v) (P 0 b) 3 on) (P 0 c) s = wI w (P 0 c) s := fun s => by rw [pI_I, if_neg (fun y => hne y.1), pI_I, if_neg (fun y => hne y.1)]
      have x5 : mm (um (um S 5 b v) 6 b on) 5 c = mm S 5 c := by rw [mm_um_ne _ _ _ (by decide), mm_um, if_neg (fun z => hcb z.2)]
      have x6 : mm (um (um S 5 b v) 6 b on) 6 c = mm S 6 c := by rw [mm_um, if_neg (fun z => hcb z.2), mm_um_ne _ _ _ (by decide)]
      rw [ee, ee, ee, ee, ee, x5, x6]
      exact ⟨q0, q1, q2, q3, q4, q5, q6, q7, q8, q9⟩
  · unfold c5 at *
    rw [em 13 (by decide) (by decide), em 14 (by decide) (by decide), em 15 (by decide) (by decide), em 16 (by decide) (by decide), em 17 (by decide) (by decide), em 18 (by decide) (by decide), em 19 (by decide) (by decide), em 20 (by decide) (by decide)]; exact e5
theorem B_run {x1 x2 x3 : Int32} {nc ns : Nat} {Q : Wd → Prop} {X : String → Wd → Prop} (R : RC e0 S w q P LE LW) (hS : okS S) (hc : 2 ≤ nc) (hs : 12 ≤ ns) (hb3 : bw_b x3) (h1 : ¬ (∃ b, b < nB S ∧ x1 = nI b) → X "java/util/NoSuchElementException" w) (h2 : (∃ b, b < nB S ∧ x1 = nI b) → ¬ rng x2 0 1000 → X "java/lang/IllegalArgumentException" w)
    (h0 : ∀ b, b < nB S → x1 = nI b → rng x2 0 1000 → ∀ w', RC e0 (um (um S 5 b x2) 6 b x3) w' q P LE LW → FrC w w' → Q w') : wp_Br_run e0 mi q x1 x2 x3 w nc ns Q X := by
  unfold wp_Br_run
  refine ⟨R.1.1, 1, 6, by omega, by omega, C_fb R hS (fun z => ⟨Nat.le_refl _, Nat.le_refl _, h1 z⟩) (fun b hb hx => ⟨1, 6, by omega, by omega, ck_ok (fun z => ⟨Nat.le_refl _, Nat.le_refl _, h2 ⟨b, hb, hx⟩ z⟩) (fun z => ⟨P 0 b, rfl, (R.2.2.1.1 b hb).1, hb3, ?_⟩)⟩)⟩
  obtain ⟨R', F'⟩ := RC_run R hS hb x2 x3
  exact h0 b hb hx z _ R' F'
theorem B_gaps {x1 : Int32} {nc ns : Nat} {Q : Wd → Prop} {X : String → Wd → Prop} (R : RC e0 S w q P LE LW) (hS : okS S) (hc : 1 ≤ nc) (hs : 6 ≤ ns) (h1 : ¬ rng x1 0 1000 → X "java/lang/IllegalArgumentException" w)
    (h0 : rng x1 0 1000 → ∀ w', RC e0 (um S 2 0 x1) w' q P LE LW → FrC w w' → Q w') : wp_Br_gaps e0 mi q x1 w nc ns Q X := by
  unfold wp_Br_gaps
  refine ⟨nc, ns, Nat.le_refl _, Nat.le_refl _, ck_ok (fun z => ⟨hc, hs, h1 z⟩) (fun z => ⟨R.1.1, ?_⟩)⟩
  obtain ⟨R', F'⟩ := RC_gap R hS x1
  exact h0 z _ R' F'
/-- two numbers of an item that is on a belt -/
theorem RC_item2 {b i s1 s2 k1 k2 : Nat} {v1 v2 : Int32} (R : RC e0 S w q P LE LW) (hS : okS S) (him : i ∈ rr S b) (hs : (s1 = 9 ∧ k1 = 17 ∧ s2 = 10 ∧ k2 = 18)) : RC e0 (um (um S k1 i v1) k2 i v2) (sI (sI w (P 1 i) s1 v1) (P 1 i) s2 v2) q P LE LW ∧ FrC w (sI (sI w (P 1 i) s1 v1) (P 1 i) s2 v2) := by
  obtain ⟨rfl, rfl, rfl, rfl⟩ := hs
  obtain ⟨-, i1, i2', i3, -⟩ := in_row hS him
  obtain ⟨r1, r2, r3, r4, r5, r6, r7, r8⟩ := R
  have h5i := (r5.1 i i1 i2').1
  have K : Kp (fun x => x = P 1 i) w (sI (sI w (P 1 i) 9 v1) (P 1 i) 10 v2) := ((Kp.rfl (X := fun x => x = P 1 i)).sI (fun _ => rfl)).sI (fun _ => rfl)
  have kN : ∀ ci, ci ≠ 2 → ∀ a, bw_is w a ci → ¬ a = P 1 i := fun ci hci a ha => is_ne ha h5i hci
  have em : ∀ k, k ≠ 17 → k ≠ 18 → mm (um (um S 17 i v1) 18 i v2) k = mm S k := fun k h1 h2 => by rw [mm_um_ne _ _ _ h2, mm_um_ne _ _ _ h1]
  have e3 := c3_kp r3 K (kN 0 (by decide))
  refine ⟨⟨c1_eq (c1_kp r1 K (kN 5 (by decide))) (em 1 (by decide) (by decide)) (em 2 (by decide) (by decide)) (em 30 (by decide) (by decide)), c2_eq (c2_kp r2 K (kN 7 (by decide)) (kN 100 (by decide))) (fun _ => rfl) (fun _ => rfl), ?_, c4_eq (c4_kp r4 K (kN 4 (by decide))) rfl (em 7 (by decide) (by decide)) (em 8 (by decide) (by decide)) (em 9 (by decide) (by decide)), ⟨fun j j1 j2 => ?_, r5.2⟩, fun c k j hk => r6 c k j hk, c7_eq (c7_kp r7 K (kN 3 (by decide))) rfl rfl (em 22 (by decide) (by decide)) (em 23 (by decide) (by decide)) (em 24 (by decide) (by decide)), c8_eq (c8_kp r8 K (kN 1 (by decide))) rfl rfl⟩, K.frC (fun a ha z => by rw [z, h5i.2]; unfold kM; omega)⟩
  · unfold c3 at *
    rw [em 4 (by decide) (by decide), em 5 (by decide) (by decide), em 6 (by decide) (by decide)]; exact e3
  · rw [em 16 (by decide) (by decide), em 20 (by decide) (by decide), em 13 (by decide) (by decide), em 14 (by decide) (by decide), em 15 (by decide) (by decide), em 19 (by decide) (by decide)]
    obtain ⟨q0, q1, q2, q3, q4, q5, q6⟩ := r5.1 j j1 j2
    by_cases hji : j = i
    · subst hji
      refine ⟨q0, ?_, ?_, ?_, ?_, q5, fun z => ⟨?_, ?_, ?_, ?_⟩⟩
      · rw [pI_I, if_neg (fun y => by simp at y), pI_I, if_neg (fun y => by simp at y)]; exact q1
      · rw [pI_I, if_neg (fun y => by simp at y), pI_I, if_neg (fun y => by simp at y)]; exact q2
      · rw [pI_I, if_neg (fun y => by simp at y), pI_I, if_neg (fun y => by simp at y)]; exact q3
      · rw [pI_I, if_neg (fun y => by simp at y), pI_I, if_neg (fun y => by simp at y)]; exact q4
      · rw [pI_I, if_neg (fun y => by simp at y), pI_I, if_neg (fun y => by simp at y)]; exact (q6 z).1
      · rw [pI_I, if_neg (fun y => by simp at y), pI_I, if_neg (fun y => by simp at y)]; exact (q6 z).2.1
      · rw [pI_I, if_neg (fun y => by simp at y), pI_I, if_pos ⟨rfl, rfl⟩, mm_um_ne _ _ _ (by decide), mm_um_at]
      · rw [pI_I, if_pos ⟨rfl, rfl⟩, mm_um_at]
    · have hne : P 1 j ≠ P 1 i := fun z => hji (r5.2 j i j1 j2 i1 i2' z)
      have ee : ∀ s, wI (sI (sI w (P 1 i) 9 v1) (P 1 i) 10 v2) (P 1 j) s = wI w (P 1 j) s := fun s => by rw [pI_I, if_neg (fun y => hne y.1), pI_I, if_neg (fun y => hne y.1)]
      have x17 : mm (um (um S 17 i v1) 18 i v2) 17 j = mm S 17 j := by rw [mm_um_ne _ _ _ (by decide), mm_um, if_neg (fun z => hji z.2)]
      have x18 : mm (um (um S 17 i v1) 18 i v2) 18 j = mm S 18 j := by rw [mm_um, if_neg (fun z => hji z.2), mm_um_ne _ _ _ (by decide)]
      rw [ee, ee, ee, ee, ee, ee, ee, ee, x17, x18]
      exact ⟨q0, q1, q2, q3, q4, q5, q6⟩
/-- an item that is on a belt is in its row -/
theorem on_row (hS : okS S) {i : Nat} (i1 : 1 ≤ i) (i2' : i ≤ nT S) (h0 : mm S 13 i = 0) : ∃ b p : Nat, (rr S b)[p]? = some i := by
  obtain ⟨b, -, -, hb⟩ := hS.2.2.2.2.1 i i1 i2'
  obtain ⟨p, hp⟩ := List.mem_iff_getElem?.mp (hb h0)
  exact ⟨b, p, hp⟩
theorem B_divert {x1 x2 : Int32} {nc ns : Nat} {Q : Int32 → Wd → Prop} {X : String → Wd → Prop} (R : RC e0 S w q P LE LW) (hS : okS S) (hc : 3 ≤ nc) (hs : 18 ≤ ns) (h1 : ¬ (∃ i, 1 ≤ i ∧ i ≤ nT S ∧ x1 = nI i) → X "java/util/NoSuchElementException" w) (h2 : (∃ i, 1 ≤ i ∧ i ≤ nT S ∧ x1 = nI i) → ¬ rng x2 0 1 → X "java/lang/IllegalArgumentException" w)
    (h3 : ∀ i, 1 ≤ i → i ≤ nT S → x1 = nI i → rng x2 0 1 → ¬ mm S 13 i = 0 → X "java/lang/IllegalStateException" w)
    (h0 : ∀ i, 1 ≤ i → i ≤ nT S → x1 = nI i → rng x2 0 1 → mm S 13 i = 0 → ∀ w', RC e0 (um (um S 17 i x2) 18 i 1) w' q P LE LW → FrC w w' → Q (if mm S 18 i = 0 then 1 else 2) w') : wp_Br_divert e0 mi q x1 x2 w nc ns Q X := by
  unfold wp_Br_divert
  refine ⟨R.1.1, 1, 6, by omega, by omega, C_fi R hS (fun z => ⟨Nat.le_refl _, Nat.le_refl _, h1 z⟩) (fun i i1 i2' hx => ⟨1, 6, by omega, by omega, ck_ok (fun z => ⟨Nat.le_refl _, Nat.le_refl _, h2 ⟨i, i1, i2', hx⟩ z⟩) (fun z => ⟨1, 6, by omega, by omega, C_on R i1 i2' (fun z2 => ⟨Nat.le_refl _, Nat.le_refl _, h3 i i1 i2' hx z z2⟩) (fun z2 => ⟨P 1 i, rfl, (R.2.2.2.2.1.1 i i1 i2').1, ?_⟩)⟩)⟩)⟩
  obtain ⟨b, p, hp⟩ := on_row hS i1 i2' z2
  obtain ⟨R', F'⟩ := RC_item2 (v1 := x2) (v2 := 1) R hS (List.mem_of_getElem? hp) ⟨rfl, rfl, rfl, rfl⟩
  have h5 := R.2.2.2.2.1.1 i i1 i2'
  have hq := h0 i i1 i2' hx z z2 _ R' F'
  rw [(h5.2.2.2.2.2.2 z2).2.2.2]
  unfold wb_Br_divert_28
  refine ⟨fun z3 => ⟨P 1 i, rfl, h5.1, ?_⟩, fun z3 => ⟨P 1 i, rfl, h5.1, ?_⟩⟩
  · rw [if_pos z3] at hq; exact hq
  · rw [if_neg z3] at hq; exact hq
theorem B_take {x1 : Int32} {nc ns : Nat} {Q : Wd → Prop} {X : String → Wd → Prop} (R : RC e0 S w q P LE LW) (hS : okS S) (hc : 2 ≤ nc) (hs : 12 ≤ ns) (h1 : ¬ (∃ i, 1 ≤ i ∧ i ≤ nT S ∧ x1 = nI i) → X "java/util/NoSuchElementException" w)
    (h3 : ∀ i, 1 ≤ i → i ≤ nT S → x1 = nI i → ¬ mm S 13 i = 0 → X "java/lang/IllegalStateException" w)
    (h0 : ∀ i b p, (rr S b)[p]? = some i → x1 = nI i → ∀ w', RC e0 (um (ur S b ((rr S b).eraseIdx p)) 13 i 2) w' q P LE LW → FrC w w' → Q w') : wp_Br_take e0 mi q x1 w nc ns Q X := by
  unfold wp_Br_take
  refine ⟨R.1.1, 1, 6, by omega, by omega, C_fi R hS (fun z => ⟨Nat.le_refl _, Nat.le_refl _, h1 z⟩) (fun i i1 i2' hx => ⟨1, 6, by omega, by omega, C_on R i1 i2' (fun z2 => ⟨Nat.le_refl _, Nat.le_refl _, h3 i i1 i2' hx z2⟩) (fun z2 => ⟨P 1 i, rfl, (R.2.2.2.2.1.1 i i1 i2').1, ?_⟩)⟩)⟩
  obtain ⟨b, p, hp⟩ := on_row hS i1 i2' z2
  exact C_leave R hS hp (by decide) (fun w' R' F' _ => h0 i b p hp hx w' R' F')
end CL
end
section
/-! CALLS OF THE CLASS: step, slip, edge, order, mean, told -/
section CL
variable {e0 mi q : Nat} {P : Nat → Nat → Nat} {S : St} {w : Wd} {LE LW : List (Nat × Ed)}
theorem B_step {x1 : Int32} {nc ns : Nat} {Q : Int32 → Wd → Prop} {X : String → Wd → Prop} (R : RC e0 S w q P LE LW) (hS : okS S) (hphi : Phi S < 2900) (h1 : ¬ rng x1 0 100 → 1 ≤ nc ∧ 6 ≤ ns ∧ X "java/lang/IllegalArgumentException" w)
    (hc : ∀ k, k ≤ 100 → x1 = nI k → usC (stepsS S k) ≤ usC S + nc ∧ usS (stepsS S k) ≤ usS S + ns)
    (h0 : ∀ k, k ≤ 100 → x1 = nI k → ∀ w' P' LE' LW', RC e0 (stepsS S k) w' q P' LE' LW' → FrC w w' → Q (nI (eds (stepsS S k)).length - nI (eds S).length) w') : wp_Br_step e0 mi q x1 w nc ns Q X := by
  unfold wp_Br_step
  by_cases hr : rng x1 0 100
  · obtain ⟨k, hk, hx⟩ := nI_of2 (M := 100) (n := 100) (by decide) hr.1 (Int32.not_lt.mp hr.2)
    refine ⟨0, 0, Nat.zero_le _, Nat.zero_le _, ck_ok (fun z => absurd hr z) (fun _ => ⟨R.1.1, C_size R (k := 3) (by decide) ⟨k + 1, ?_⟩⟩)⟩
    have : (lsx S P LE LW 3).length = (eds S).length := (LE_len R).1
    rw [this, hx]
    exact C_steps_l (P0 := P) (w0 := w) hS (wx_ge R) (few_of_phi hS hphi k) hk (fun w' P' LE' LW' R' _ F' => h0 k hk hx w' P' LE' LW' R' F') k 0 w P LE LW _ _ (by omega) R Pk.rfl FrC.rfl (hc k hk hx).1 (hc k hk hx).2
  · obtain ⟨c1', c2', c3'⟩ := h1 hr
    exact ⟨nc, ns, Nat.le_refl _, Nat.le_refl _, ck_ok (fun z => ⟨c1', c2', c3'⟩) (fun z => absurd z hr)⟩
theorem B_edge {x1 x2 : Int32} {nc ns : Nat} {Q : Int32 → Wd → Prop} {X : String → Wd → Prop} (R : RC e0 S w q P LE LW) (hl : (eds S).length < 4096) (hc : 1 ≤ nc) (hs : 6 ≤ ns) (h1 : ¬ (∃ j, j < (eds S).length ∧ x1 = nI j) → X "java/util/NoSuchElementException" w)
    (h2 : (∃ j, j < (eds S).length ∧ x1 = nI j) → (x2.toInt < 0 ∨ 3 < x2.toInt) → X "java/lang/IllegalArgumentException" w)
    (h0 : ∀ j e, (eds S)[j]? = some e → x1 = nI j → (x2 = 0 → Q e.1 w) ∧ (x2 = 1 → Q (nI e.2.1) w) ∧ (x2 = 2 → Q (nI e.2.2.1) w) ∧ (x2 = 3 → Q (nI e.2.2.2) w)) : wp_Br_edge e0 mi q x1 x2 w nc ns Q X := by
  have hlen := (LE_len R).1
  have hl3 : (lsx S P LE LW 3).length = (eds S).length := hlen
  unfold wp_Br_edge wb_Br_edge_15
  rcases ix_cases x1 (n := (eds S).length) (by omega) with ⟨j, hj, hx⟩ | ⟨hn, hz⟩
  · refine ⟨fun z => absurd z (by rw [hx]; exact nI_pos (by omega)), fun _ => ⟨R.1.1, C_size R (k := 3) (by decide) ?_⟩⟩
    rw [hl3]
    have hjL : j < LE.length := by rw [List.length_map] at hlen; omega
    have hy : LE[j]? = some LE[j] := List.getElem?_eq_getElem hjL
    have hE := R.2.2.2.2.2.2.2.2.2.1 LE[j] (List.mem_of_getElem? hy)
    have hes : (eds S)[j]? = some LE[j].2 := by rw [← R.2.2.2.2.2.2.2.1, List.getElem?_map, hy]; rfl
    have hg : (lsx S P LE LW 3)[j]? = some LE[j].1 := by show (LE.map Prod.fst)[j]? = _; rw [List.getElem?_map, hy]; rfl
    obtain ⟨a0, a1, a2, a3⟩ := h0 j LE[j].2 hes hx
    refine ⟨fun _ => ⟨R.1.1, P 6 3, R.1.2.2.2.2 3 (by decide), (R.2.1.1 3 (by decide)).1, ?_⟩, fun z => absurd (by rw [hx]; exact nI_lt hj (by omega)) z⟩
    rw [hx]
    refine isK_get (R.2.1.1 3 (by decide)) hg ⟨fun a ha => (by cases ha; exact hE.1), fun z => ⟨LE[j].1, rfl, hE.1, ?_⟩, fun z => ⟨LE[j].1, rfl, hE.1, ?_⟩, fun z => ⟨LE[j].1, rfl, hE.1, ?_⟩, fun z => ⟨LE[j].1, rfl, hE.1, ?_⟩, fun z => ⟨hc, hs, h2 ⟨j, hj, hx⟩ z⟩⟩
    · rw [hE.2.1]; exact a0 z
    · rw [hE.2.2.1]; exact a1 z
    · rw [hE.2.2.2.1]; exact a2 z
    · rw [hE.2.2.2.2]; exact a3 z
  · refine ⟨fun _ => ⟨hc, hs, h1 hn⟩, fun z => ⟨R.1.1, C_size R (k := 3) (by decide) ?_⟩⟩
    rw [hl3]
    refine ⟨fun z2 => ?_, fun _ => ⟨hc, hs, h1 hn⟩⟩
    rcases hz with y | y
    · exact absurd y z
    · exact absurd z2 y
theorem B_order {x1 : Int32} {nc ns : Nat} {Q : Int32 → Wd → Prop} {X : String → Wd → Prop} (R : RC e0 S w q P LE LW) (hS : okS S) (hl : (gos S).length < 4096) (hc : 1 ≤ nc) (hs : 6 ≤ ns) (h1 : ¬ (∃ j, j < (gos S).length ∧ x1 = nI j) → X "java/util/NoSuchElementException" w)
    (h0 : ∀ j i, (gos S)[j]? = some i → x1 = nI j → Q (nI i) w) : wp_Br_order e0 mi q x1 w nc ns Q X := by
  have hl5 : (lsx S P LE LW 5).length = (gos S).length := by show ((gos S).map (P 1)).length = _; simp
  unfold wp_Br_order wb_Br_order_15
  rcases ix_cases x1 (n := (gos S).length) (by omega) with ⟨j, hj, hx⟩ | ⟨hn, hz⟩
  · refine ⟨fun z => absurd z (by rw [hx]; exact nI_pos (by omega)), fun _ => ⟨R.1.1, C_size R (k := 5) (by decide) ?_⟩⟩
    rw [hl5]
    have hy : (gos S)[j]? = some (gos S)[j] := List.getElem?_eq_getElem hj
    have hi := hS.2.2.2.2.2.2.1.2 _ (List.mem_of_getElem? hy)
    have h5 := R.2.2.2.2.1.1 _ hi.1 hi.2.1
    have hg : (lsx S P LE LW 5)[j]? = some (P 1 (gos S)[j]) := by show ((gos S).map (P 1))[j]? = _; rw [List.getElem?_map, hy]; rfl
    refine ⟨fun _ => ⟨R.1.1, P 6 5, R.1.2.2.2.2 5 (by decide), (R.2.1.1 5 (by decide)).1, ?_⟩, fun z => absurd (by rw [hx]; exact nI_lt hj (by omega)) z⟩
    rw [hx]
    refine isK_get (R.2.1.1 5 (by decide)) hg ⟨fun a ha => (by cases ha; exact h5.1), P 1 (gos S)[j], rfl, h5.1, ?_⟩
    rw [h5.2.1]
    exact h0 j _ hy hx
  · refine ⟨fun _ => ⟨hc, hs, h1 hn⟩, fun z => ⟨R.1.1, C_size R (k := 5) (by decide) ?_⟩⟩
    rw [hl5]
    refine ⟨fun z2 => ?_, fun _ => ⟨hc, hs, h1 hn⟩⟩
    rcases hz with y | y
    · exact absurd y z
    · exact absurd z2 y
theorem B_mean {nc ns : Nat} {Q : Int32 → Wd → Prop} {X : String → Wd → Prop} (R : RC e0 S w q P LE LW) (hl : (gos S).length < 4096) (hc : 1 ≤ nc) (hs : 6 ≤ ns) (h1 : (gos S).length = 0 → X "java/lang/ArithmeticException" w) (h0 : ¬ (gos S).length = 0 → Q (mm S 30 0 / nI (gos S).length) w) : wp_Br_mean e0 mi q w nc ns Q X := by
  have hl5 : (lsx S P LE LW 5).length = (gos S).length := by show ((gos S).map (P 1)).length = _; simp
  unfold wp_Br_mean
  refine ⟨R.1.1, C_size R (k := 5) (by decide) ?_⟩
  rw [hl5]
  have key : nI (gos S).length = 0 ↔ (gos S).length = 0 := ⟨fun z => (nI_eq (b := 0) (by omega) (by omega)).mp z, fun z => by rw [z]; rfl⟩
  refine ⟨fun z => ⟨R.1.1, z, ?_⟩, fun z => ⟨hc, hs, h1 (key.mp z)⟩⟩
  rw [R.1.2.2.2.1]
  exact h0 (fun y => z (key.mpr y))
theorem B_told {x1 x2 : Int32} {nc ns : Nat} {Q : Int32 → Wd → Prop} {X : String → Wd → Prop} (R : RC e0 S w q P LE LW) (hS : okS S) (hc : 2 ≤ nc) (hs : 12 ≤ ns) (h1 : ¬ (∃ i, 1 ≤ i ∧ i ≤ nT S ∧ x1 = nI i) → X "java/util/NoSuchElementException" w)
    (h2 : (∃ i, 1 ≤ i ∧ i ≤ nT S ∧ x1 = nI i) → (x2.toInt < 0 ∨ 6 < x2.toInt) → X "java/lang/IllegalArgumentException" w)
    (h0 : ∀ i, 1 ≤ i → i ≤ nT S → x1 = nI i → (x2 = 0 → Q (mm S 13 i) w) ∧ (x2 = 1 → Q (mm S 14 i) w) ∧ (x2 = 2 → Q (if mm S 13 i = 0 then mm S 15 i else -1) w) ∧ (x2 = 3 → Q (mm S 16 i) w) ∧ (x2 = 4 → ∀ v, (mm S 13 i = 0 → v = mm S 17 i) → Q v w) ∧ (x2 = 5 → Q (if mm S 13 i = 0 then mm S 19 i else -1) w) ∧ (x2 = 6 → Q (mm S 20 i) w)) : wp_Br_told e0 mi q x1 x2 w nc ns Q X := by
  unfold wp_Br_told
  refine ⟨R.1.1, 1, 6, by omega, by omega, C_fi R hS (fun z => ⟨Nat.le_refl _, Nat.le_refl _, h1 z⟩) (fun i i1 i2' hx => ⟨P 1 i, rfl, (R.2.2.2.2.1.1 i i1 i2').1, ?_⟩)⟩
  obtain ⟨q0, q1, q2, q3, q4, q5, q6⟩ := R.2.2.2.2.1.1 i i1 i2'
  obtain ⟨a0, a1, a2, a3, a4, a5, a6⟩ := h0 i i1 i2' hx
  obtain ⟨b, hb, hbe, -⟩ := hS.2.2.2.2.1 i i1 i2'
  have h3 := q5 b hb hbe
  have h3b := R.2.2.1.1 b hb
  have T : ∀ z0 : Int32, (z0 = 0 → ¬ mm S 13 i = 0) → (¬ z0 = 0 → mm S 13 i = 0) → wb_Br_told_18 e0 mi Q X q x1 x2 (some (P 1 i)) z0 w (nc - 1) (ns - 6) := fun z0 hz1 hz2 => by
    unfold wb_Br_told_18 wb_Br_told_87 wb_Br_told_101 wb_Br_told_125
    refine ⟨fun z => ⟨P 1 i, rfl, q0, ?_⟩, fun z => ⟨P 1 i, rfl, q0, ?_⟩, fun z => ⟨fun y => ?_, fun y => ⟨P 1 i, rfl, q0, ?_⟩⟩, fun z => ⟨P 1 i, rfl, q0, ?_⟩, fun z => ⟨P 1 i, rfl, q0, ?_⟩, fun z => ⟨fun y => ?_, fun y => ⟨P 1 i, rfl, q0, ?_⟩⟩, fun z => ⟨P 1 i, rfl, q0, ?_⟩, fun z => ⟨by omega, by omega, h2 ⟨i, i1, i2', hx⟩ z⟩⟩
    · rw [q4]; exact a0 z
    · rw [h3]
      refine ⟨fun _ => ⟨P 0 b, rfl, h3b.1, ?_⟩, fun y => absurd y (by simp)⟩
      rw [h3b.2.1, ← hbe]; exact a1 z
    · have := a2 z; rw [if_neg (hz1 y)] at this; exact this
    · have := a2 z; rw [if_pos (hz2 y)] at this; rw [(q6 (hz2 y)).1]; exact this
    · rw [q2]; exact a3 z
    · exact a4 z _ (fun y => (q6 y).2.2.1)
    · have := a5 z; rw [if_neg (hz1 y)] at this; exact this
    · have := a5 z; rw [if_pos (hz2 y)] at this; rw [(q6 (hz2 y)).2.1]; exact this
    · rw [q3]; exact a6 z
  rw [q4]
  exact ⟨fun z => T 0 (fun _ => z) (fun y => absurd rfl y), fun z => T 1 (fun y => absurd y (by decide)) (fun _ => z)⟩
end CL
end
section
/-! CALLS OF THE CLASS: slip, gap, known, count -/
def cntS (S : St) : Nat → Nat
  | 0 => 0
  | n + 1 => cntS S n + (rr S n).length
section CL
variable {e0 mi q : Nat} {P : Nat → Nat → Nat} {S : St} {w : Wd} {LE LW : List (Nat × Ed)}
theorem RC_slip {b i : Nat} (R : RC e0 S w q P LE LW) (hS : okS S) (him : i ∈ rr S b) (t : Int32) : RC e0 (um S 15 i t) (sI w (P 1 i) 7 t) q P LE LW ∧ FrC w (sI w (P 1 i) 7 t) := by
  obtain ⟨-, i1, i2', i3, -⟩ := in_row hS him
  obtain ⟨r1, r2, r3, r4, r5, r6, r7, r8⟩ := R
  have h5i := (r5.1 i i1 i2').1
  have K : Kp (fun x => x = P 1 i) w (sI w (P 1 i) 7 t) := (Kp.rfl (X := fun x => x = P 1 i)).sI (fun _ => rfl)
  have kN : ∀ ci, ci ≠ 2 → ∀ a, bw_is w a ci → ¬ a = P 1 i := fun ci hci a ha => is_ne ha h5i hci
  have em : ∀ k, k ≠ 15 → mm (um S 15 i t) k = mm S k := fun k h1 => mm_um_ne _ _ _ h1
  have e3 := c3_kp r3 K (kN 0 (by decide))
  refine ⟨⟨c1_eq (c1_kp r1 K (kN 5 (by decide))) (em 1 (by decide)) (em 2 (by decide)) (em 30 (by decide)), c2_eq (c2_kp r2 K (kN 7 (by decide)) (kN 100 (by decide))) (fun _ => rfl) (fun _ => rfl), ?_, c4_eq (c4_kp r4 K (kN 4 (by decide))) rfl (em 7 (by decide)) (em 8 (by decide)) (em 9 (by decide)), ⟨fun j j1 j2 => ?_, r5.2⟩, fun c k j hk => r6 c k j hk, c7_eq (c7_kp r7 K (kN 3 (by decide))) rfl rfl (em 22 (by decide)) (em 23 (by decide)) (em 24 (by decide)), c8_eq (c8_kp r8 K (kN 1 (by decide))) rfl rfl⟩, K.frC (fun a ha z => by rw [z, h5i.2]; unfold kM; omega)⟩
  · unfold c3 at *
    rw [em 4 (by decide), em 5 (by decide), em 6 (by decide)]; exact e3
  · rw [em 16 (by decide), em 20 (by decide), em 13 (by decide), em 14 (by decide), em 17 (by decide), em 18 (by decide), em 19 (by decide)]
    obtain ⟨q0, q1, q2, q3, q4, q5, q6⟩ := r5.1 j j1 j2
    by_cases hji : j = i
    · subst hji
      refine ⟨q0, ?_, ?_, ?_, ?_, q5, fun z => ⟨?_, ?_, ?_, ?_⟩⟩
      · rw [pI_I, if_neg (fun y => by simp at y)]; exact q1
      · rw [pI_I, if_neg (fun y => by simp at y)]; exact q2
      · rw [pI_I, if_neg (fun y => by simp at y)]; exact q3
      · rw [pI_I, if_neg (fun y => by simp at y)]; exact q4
      · rw [pI_I, if_pos ⟨rfl, rfl⟩, mm_um_at]
      · rw [pI_I, if_neg (fun y => by simp at y)]; exact (q6 z).2.1
      · rw [pI_I, if_neg (fun y => by simp at y)]; exact (q6 z).2.2.1
      · rw [pI_I, if_neg (fun y => by simp at y)]; exact (q6 z).2.2.2
    · have hne : P 1 j ≠ P 1 i := fun z => hji (r5.2 j i j1 j2 i1 i2' z)
      have ee : ∀ s, wI (sI w (P 1 i) 7 t) (P 1 j) s = wI w (P 1 j) s := fun s => by rw [pI_I, if_neg (fun y => hne y.1)]
      have x15 : mm (um S 15 i t) 15 j = mm S 15 j := by rw [mm_um, if_neg (fun z => hji z.2)]
      rw [ee, ee, ee, ee, ee, ee, ee, ee, x15]
      exact ⟨q0, q1, q2, q3, q4, q5, q6⟩
/-- the item at the place p of the row b may slip back so far -/
def slipOk (S : St) (b p i : Nat) (by' : Int32) : Prop := ∀ j, (rr S b)[p + 1]? = some j → mm S 2 0 ≤ (rearS S i - by') - mm S 15 j
theorem B_slip {x1 x2 : Int32} {nc ns : Nat} {Q : Int32 → Wd → Prop} {X : String → Wd → Prop} (R : RC e0 S w q P LE LW) (hS : okS S) (hc : 4 ≤ nc) (hs : 24 ≤ ns) (h1 : ¬ (∃ i, 1 ≤ i ∧ i ≤ nT S ∧ x1 = nI i) → X "java/util/NoSuchElementException" w) (h2 : (∃ i, 1 ≤ i ∧ i ≤ nT S ∧ x1 = nI i) → ¬ rng x2 1 1000 → X "java/lang/IllegalArgumentException" w)
    (h3 : ∀ i, 1 ≤ i → i ≤ nT S → x1 = nI i → rng x2 1 1000 → ¬ mm S 13 i = 0 → X "java/lang/IllegalStateException" w)
    (h4 : ∀ i b p, (rr S b)[p]? = some i → x1 = nI i → rng x2 1 1000 → ¬ (x2 ≤ mm S 15 i ∧ slipOk S b p i x2) → X "java/lang/IllegalStateException" w)
    (h0 : ∀ i b p, (rr S b)[p]? = some i → x1 = nI i → rng x2 1 1000 → x2 ≤ mm S 15 i → slipOk S b p i x2 → ∀ w', RC e0 (um S 15 i (mm S 15 i - x2)) w' q P LE LW → FrC w w' → Q (mm S 15 i - x2) w') : wp_Br_slip e0 mi q x1 x2 w nc ns Q X := by
  unfold wp_Br_slip
  refine ⟨R.1.1, 1, 6, by omega, by omega, C_fi R hS (fun z => ⟨Nat.le_refl _, Nat.le_refl _, h1 z⟩) (fun i i1 i2' hx => ⟨1, 6, by omega, by omega, ck_ok (fun z => ⟨Nat.le_refl _, Nat.le_refl _, h2 ⟨i, i1, i2', hx⟩ z⟩) (fun z => ⟨1, 6, by omega, by omega, C_on R i1 i2' (fun z2 => ⟨Nat.le_refl _, Nat.le_refl _, h3 i i1 i2' hx z z2⟩) (fun z2 => ⟨P 1 i, rfl, (R.2.2.2.2.1.1 i i1 i2').1, ?_⟩)⟩)⟩)⟩
  obtain ⟨b, p, hp⟩ := on_row hS i1 i2' z2
  have h5 := R.2.2.2.2.1.1 i i1 i2'
  have v7 := (h5.2.2.2.2.2.2 z2).1
  have lk := (R.2.2.2.2.2.1 b p i hp).2
  obtain ⟨R', F'⟩ := RC_slip R hS (List.mem_of_getElem? hp) (mm S 15 i - x2)
  have T : ∀ (r26 : Option Nat) (nc' ns' : Nat), x2 ≤ mm S 15 i → slipOk S b p i x2 → wb_Br_slip_76 e0 mi Q X q x1 x2 (some (P 1 i)) r26 w nc' ns' := fun r26 nc' ns' hle hok => by
    unfold wb_Br_slip_76
    refine ⟨P 1 i, rfl, h5.1, ?_⟩
    rw [v7, pI_I, if_pos ⟨rfl, rfl⟩]
    exact h0 i b p hp hx z hle hok _ R' F'
  rw [v7]
  refine ⟨fun hle r26 e26 => ?_, fun hle => ⟨by omega, by omega, h4 i b p hp hx z (fun y => hle y.1)⟩⟩
  rw [lk] at e26
  cases hn : (rr S b)[p + 1]? with
  | none =>
    rw [hn] at e26
    subst e26
    exact ⟨fun _ => T _ _ _ hle (fun j hj => by rw [hn] at hj; cases hj), fun y => absurd rfl y⟩
  | some j =>
    rw [hn] at e26
    subst e26
    have hj := in_row hS (List.mem_of_getElem? hn)
    have h5j := R.2.2.2.2.1.1 j hj.2.1 hj.2.2.1
    refine ⟨fun y => absurd y (by simp), fun _ => C_rear R i1 i2' z2 ⟨P 1 j, rfl, h5j.1, R.1.1, ?_⟩⟩
    rw [R.1.2.1, (h5j.2.2.2.2.2.2 hj.2.2.2.1).1]
    refine ⟨fun y => T _ _ _ hle (fun k hk => ?_), fun y => ⟨by omega, by omega, h4 i b p hp hx z (fun u => y (u.2 j hn))⟩⟩
    rw [hn] at hk
    cases hk
    exact y
theorem C_itemsOn : ∀ (n k : Nat) {Q : Int32 → Wd → Prop}, RC e0 S w q P LE LW → okS S → k + n = nB S → Q (nI (cntS S (nB S))) w → wb_Br_itemsOnBelts_4 e0 mi Q (n + 1) q (nI (cntS S k)) (nI k) w
  | 0, k, Q, R, hS, hk, hQ => by
    have hb8 := hS.1.1
    have : k = nB S := by omega
    subst this
    unfold wb_Br_itemsOnBelts_4
    refine ⟨R.1.1, C_size R (k := 0) (by decide) ?_⟩
    rw [lsx0]
    exact ⟨fun _ => hQ, fun z => absurd (nI_le (Nat.le_refl _) (by omega)) z⟩
  | n + 1, k, Q, R, hS, hk, hQ => by
    have hb8 := hS.1.1
    have hkB : k < nB S := by omega
    have h3 := R.2.2.1.1 k hkB
    unfold wb_Br_itemsOnBelts_4
    refine ⟨R.1.1, C_size R (k := 0) (by decide) ?_⟩
    rw [lsx0]
    refine ⟨fun z => absurd z (nI_ge hkB (by omega)), fun _ => ⟨R.1.1, P 6 0, R.1.2.2.2.2 0 (by decide), (R.2.1.1 0 (by decide)).1, C_beltAt R hkB ⟨fun a ha => (by cases ha; exact h3.1), P 0 k, rfl, h3.1, fun i26 e26 i27 e27 => ?_⟩⟩⟩
    rw [e26, e27, h3.2.2.2.2.2.1, nI_add, nI_1]
    exact C_itemsOn n (k + 1) R hS (by omega) hQ
theorem B_count {x1 : Int32} {Q : Int32 → Wd → Prop} (R : RC e0 S w q P LE LW) (hS : okS S) (a0 : x1 = 0 → Q (nI (nB S)) w) (a1 : x1 = 1 → Q (nI (nT S)) w) (a2 : x1 = 2 → Q (nI (cntS S (nB S))) w) (a3 : x1 = 3 → Q (nI (gos S).length) w) (a4 : x1 = 4 → Q (nI (eds S).length) w) (a5 : x1 = 5 → Q (mm S 1 0) w) (a6 : x1 = 6 → Q (nI (nS S)) w) (a7 : x1 = 7 → Q (nI (wts S).length) w) (a8 : (x1.toInt < 0 ∨ 7 < x1.toInt) → Q (-1) w) : wp_Br_count e0 mi q x1 w Q := by
  unfold wp_Br_count wp_Br_itemsOnBelts
  refine ⟨fun z => ⟨R.1.1, C_size R (k := 0) (by decide) ?_⟩, fun z => ⟨R.1.1, C_size R (k := 1) (by decide) ?_⟩, fun z => ⟨R.1.1, nB S + 1, C_itemsOn (nB S) 0 R hS (by omega) (a2 z)⟩, fun z => ⟨R.1.1, C_size R (k := 5) (by decide) ?_⟩, fun z => ⟨R.1.1, C_size R (k := 3) (by decide) ?_⟩, fun z => ⟨R.1.1, ?_⟩, fun z => ⟨R.1.1, C_size R (k := 2) (by decide) ?_⟩, fun z => ⟨R.1.1, C_size R (k := 4) (by decide) ?_⟩, a8⟩
  · rw [lsx0]; exact a0 z
  · rw [lsx1]; exact a1 z
  · rw [show (lsx S P LE LW 5).length = (gos S).length by show ((gos S).map (P 1)).length = _; simp]; exact a3 z
  · rw [show (lsx S P LE LW 3).length = (eds S).length from (LE_len R).1]; exact a4 z
  · rw [R.1.2.2.1]; exact a5 z
  · rw [show (lsx S P LE LW 2).length = nS S by show ((List.range (nS S)).map (P 3)).length = _; simp]; exact a6 z
  · rw [show (lsx S P LE LW 4).length = (wts S).length from (LE_len R).2]; exact a7 z
end CL
end
section
/-! CALLS OF THE CLASS: known, gap, join, clean -/
def ind (c : Prop) (h : Decidable c) : Nat := match h with
  | .isTrue _ => 1
  | .isFalse _ => 0
/-- how many ways of the belts below n lead to the belt t -/
def wayN (S : St) (t : Nat) : Nat → Nat
  | 0 => 0
  | n + 1 => wayN S t n + (if mm S 7 (2 * n) = nI t then 1 else 0) + (if mm S 7 (2 * n + 1) = nI t then 1 else 0)
/-- all items of a belt are taken, from the front -/
def cleanN (S : St) (b : Nat) : Nat → St
  | 0 => S
  | n + 1 => match rr S b with
    | [] => S
    | i :: _ => cleanN (um (ur S b ((rr S b).eraseIdx 0)) 13 i 2) b n
section CL
variable {e0 mi q : Nat} {P : Nat → Nat → Nat} {S : St} {w : Wd} {LE LW : List (Nat × Ed)}
theorem C_next {b y : Nat} {Q : Int32 → Wd → Prop} (R : RC e0 S w q P LE LW) (hS : okS S) (hb : b < nB S) (hy : y < 2) (hQ : Q (mm S 7 (2 * b + y)) w) : wp_Wy_nextNumber e0 mi (P 2 (2 * b + y)) w Q := by
  have h4 := R.2.2.2.1.1 (2 * b + y) (by omega)
  unfold wp_Wy_nextNumber wb_Wy_nextNumber_18
  refine ⟨h4.1, ?_⟩
  rcases hS.2.2.2.2.2.1 b hb y hy with h | ⟨c, c1', c2', c3'⟩
  · rw [h4.2.2.1 h]
    rw [h] at hQ
    exact ⟨fun z => absurd rfl z, fun _ => hQ⟩
  · rw [h4.2.2.2.1 c c2' c3']
    have h3 := R.2.2.1.1 c c2'
    refine ⟨fun _ => ⟨P 0 c, rfl, h3.1, ?_⟩, fun z => absurd z (by simp)⟩
    rw [h3.2.1, ← c3']; exact hQ
theorem B_known {x1 x2 : Int32} {nc ns : Nat} {Q : Int32 → Wd → Prop} {X : String → Wd → Prop} (R : RC e0 S w q P LE LW) (hS : okS S) (hc : 2 ≤ nc) (hs : 12 ≤ ns) (h1 : ¬ (∃ b, b < nB S ∧ x1 = nI b) → X "java/util/NoSuchElementException" w)
    (h2 : (∃ b, b < nB S ∧ x1 = nI b) → (x2.toInt < 0 ∨ 8 < x2.toInt) → X "java/lang/IllegalArgumentException" w)
    (h0 : ∀ b, b < nB S → x1 = nI b → (x2 = 0 → Q (mm S 4 b) w) ∧ (x2 = 1 → Q (mm S 5 b) w) ∧ (x2 = 2 → Q (if mm S 6 b = 0 then 0 else 1) w) ∧ (x2 = 3 → Q (nI (rr S b).length) w) ∧ (x2 = 4 → Q (enc ((rr S b)[0]?)) w) ∧ (x2 = 5 → Q (mm S 7 (2 * b)) w) ∧ (x2 = 6 → Q (mm S 7 (2 * b + 1)) w) ∧ (x2 = 7 → Q (mm S 9 (2 * b)) w) ∧ (x2 = 8 → Q (mm S 9 (2 * b + 1)) w)) : wp_Br_known e0 mi q x1 x2 w nc ns Q X := by
  unfold wp_Br_known wb_Br_known_78 wb_Br_known_102
  refine ⟨R.1.1, 1, 6, by omega, by omega, C_fb R hS (fun z => ⟨Nat.le_refl _, Nat.le_refl _, h1 z⟩) (fun b hb hx => ?_)⟩
  obtain ⟨q0, q1, q2, q3, q4, q5, q6, q7, q8, q9⟩ := R.2.2.1.1 b hb
  obtain ⟨a0, a1, a2, a3, a4, a5, a6, a7, a8⟩ := h0 b hb hx
  refine ⟨fun z => ⟨P 0 b, rfl, q0, ?_⟩, fun z => ⟨P 0 b, rfl, q0, ?_⟩, fun z => ⟨P 0 b, rfl, q0, fun y => ?_, fun y => ?_⟩, fun z => ⟨P 0 b, rfl, q0, ?_⟩, fun z => ⟨P 0 b, rfl, q0, ?_⟩, fun z => ⟨P 0 b, rfl, q0, C_wayN R hb (y := 0) (by decide) rfl ⟨_, rfl, (R.2.2.2.1.1 (2 * b + 0) (by omega)).1, C_next R hS hb (y := 0) (by decide) (a5 z)⟩⟩, fun z => ⟨P 0 b, rfl, q0, C_wayN R hb (y := 1) (by decide) rfl ⟨_, rfl, (R.2.2.2.1.1 (2 * b + 1) (by omega)).1, C_next R hS hb (y := 1) (by decide) (a6 z)⟩⟩, fun z => ⟨P 0 b, rfl, q0, C_wayN R hb (y := 0) (by decide) rfl ⟨_, rfl, (R.2.2.2.1.1 (2 * b + 0) (by omega)).1, ?_⟩⟩, fun z => ⟨P 0 b, rfl, q0, C_wayN R hb (y := 1) (by decide) rfl ⟨_, rfl, (R.2.2.2.1.1 (2 * b + 1) (by omega)).1, ?_⟩⟩, fun z => ⟨by omega, by omega, h2 ⟨b, hb, hx⟩ z⟩⟩
  · rw [q2]; exact a0 z
  · rw [q3]; exact a1 z
  · have := a2 z; rw [q4] at y; rw [if_pos y] at this; exact this
  · have := a2 z; rw [q4] at y; rw [if_neg y] at this; exact this
  · rw [q5]; exact a3 z
  · rw [q6]
    have := a4 z
    cases hf : (rr S b)[0]? with
    | none =>
      rw [hf] at this
      exact ⟨fun y => absurd rfl y, fun _ => this⟩
    | some i =>
      rw [hf] at this
      have hi := in_row hS (List.mem_of_getElem? hf)
      have h5 := R.2.2.2.2.1.1 i hi.2.1 hi.2.2.1
      refine ⟨fun _ => ⟨P 1 i, rfl, h5.1, ?_⟩, fun y => absurd y (by simp)⟩
      rw [h5.2.1]; exact this
  · rw [(R.2.2.2.1.1 (2 * b + 0) (by omega)).2.1]; exact a7 z
  · rw [(R.2.2.2.1.1 (2 * b + 1) (by omega)).2.1]; exact a8 z
theorem B_gap {x1 x2 : Int32} {nc ns : Nat} {Q : Int32 → Wd → Prop} {X : String → Wd → Prop} (R : RC e0 S w q P LE LW) (hS : okS S) (hc : 5 ≤ nc) (hs : 30 ≤ ns) (h1 : ¬ ((∃ i, 1 ≤ i ∧ i ≤ nT S ∧ x1 = nI i) ∧ (∃ i, 1 ≤ i ∧ i ≤ nT S ∧ x2 = nI i)) → X "java/util/NoSuchElementException" w)
    (h2 : ∀ i j, 1 ≤ i → i ≤ nT S → x1 = nI i → 1 ≤ j → j ≤ nT S → x2 = nI j → ¬ (mm S 13 i = 0 ∧ mm S 13 j = 0 ∧ ¬ i = j ∧ mm S 14 i = mm S 14 j) → X "java/lang/IllegalStateException" w)
    (h0 : ∀ i j, 1 ≤ i → i ≤ nT S → x1 = nI i → 1 ≤ j → j ≤ nT S → x2 = nI j → mm S 13 i = 0 → mm S 13 j = 0 → ¬ i = j → mm S 14 i = mm S 14 j → Q (if mm S 15 i ≤ mm S 15 j then rearS S j - mm S 15 i else rearS S i - mm S 15 j) w) : wp_Br_gap e0 mi q x1 x2 w nc ns Q X := by
  unfold wp_Br_gap wb_Br_gap_40 wb_Br_gap_85
  refine ⟨R.1.1, 1, 6, by omega, by omega, C_fi R hS (fun z => ⟨Nat.le_refl _, Nat.le_refl _, h1 (fun y => z y.1)⟩) (fun i i1 i2' hx => ⟨R.1.1, 1, 6, by omega, by omega, C_fi R hS (fun z => ⟨Nat.le_refl _, Nat.le_refl _, h1 (fun y => z y.2)⟩) (fun j j1 j2 hy => ⟨1, 6, by omega, by omega, C_on R i1 i2' (fun z => ⟨Nat.le_refl _, Nat.le_refl _, h2 i j i1 i2' hx j1 j2 hy (fun u => z u.1)⟩) (fun z => ⟨1, 6, by omega, by omega, C_on R j1 j2 (fun z2 => ⟨Nat.le_refl _, Nat.le_refl _, h2 i j i1 i2' hx j1 j2 hy (fun u => z2 u.2.1)⟩) (fun z2 => ?_)⟩)⟩)⟩)⟩
  have h5i := R.2.2.2.2.1.1 i i1 i2'
  have h5j := R.2.2.2.2.1.1 j j1 j2
  obtain ⟨bi, bi1, bi2, -⟩ := hS.2.2.2.2.1 i i1 i2'
  obtain ⟨bj, bj1, bj2, -⟩ := hS.2.2.2.2.1 j j1 j2
  have wi := h5i.2.2.2.2.2.1 bi bi1 bi2
  have wj := h5j.2.2.2.2.2.1 bj bj1 bj2
  have hb8 := hS.1.1
  have kb : (some (P 0 bi) = some (P 0 bj)) ↔ mm S 14 i = mm S 14 j := by
    rw [bi2, bj2]
    constructor
    · intro u; rw [R.2.2.1.2 bi bj bi1 bj1 (Option.some.inj u)]
    · intro u; rw [(nI_eq (by omega) (by omega)).mp u]
  have ki : (some (P 1 i) = some (P 1 j)) ↔ i = j := ⟨fun u => R.2.2.2.2.1.2 i j i1 i2' j1 j2 (Option.some.inj u), fun u => by rw [u]⟩
  refine ⟨P 1 i, rfl, h5i.1, P 1 j, rfl, h5j.1, ?_⟩
  rw [wi, wj, (h5i.2.2.2.2.2.2 z).1, (h5j.2.2.2.2.2.2 z2).1]
  refine ⟨fun u => ⟨by omega, by omega, h2 i j i1 i2' hx j1 j2 hy (fun v => u (kb.mpr v.2.2.2))⟩, fun u => ⟨fun v => ⟨fun t => ?_, fun t => ?_⟩, fun v => ⟨by omega, by omega, h2 i j i1 i2' hx j1 j2 hy (fun t => t.2.2.1 (ki.mp v))⟩⟩⟩
  · have hq := h0 i j i1 i2' hx j1 j2 hy z z2 (fun t => v (ki.mpr t)) (kb.mp u)
    rw [if_pos t] at hq
    refine C_rear R j1 j2 z2 ⟨h5i.1, ?_⟩
    rw [(h5i.2.2.2.2.2.2 z).1]; exact hq
  · have hq := h0 i j i1 i2' hx j1 j2 hy z z2 (fun t => v (ki.mpr t)) (kb.mp u)
    rw [if_neg t] at hq
    refine C_rear R i1 i2' z ⟨h5j.1, ?_⟩
    rw [(h5j.2.2.2.2.2.2 z2).1]; exact hq
theorem C_clean {b : Nat} {x1 : Int32} {w0 : Wd} {N nc ns : Nat} {Q : Int32 → Wd → Prop} {X : String → Wd → Prop} : ∀ (n k : Nat) (S : St) (w : Wd), k + n = N → N ≤ 60 → (rr S b).length = n → okS S → b < nB S → RC e0 S w q P LE LW → FrC w0 w → (∀ w', RC e0 (cleanN S b n) w' q P LE LW → FrC w0 w' → Q (nI N) w') → wb_Br_clean_31 e0 mi Q X (n + 1) q x1 (some (P 0 b)) (nI N) (nI k) w nc ns
  | 0, k, S, w, hk, hN, hl, hS, hb, R, F, hQ => by
    have : k = N := by omega
    subst this
    unfold wb_Br_clean_31 wb_Br_clean_58
    exact ⟨fun _ => hQ w R F, fun z => absurd (nI_le (Nat.le_refl _) (by omega)) z⟩
  | n + 1, k, S, w, hk, hN, hl, hS, hb, R, F, hQ => by
    have h3 := R.2.2.1.1 b hb
    cases hr : rr S b with
    | nil => rw [hr] at hl; simp at hl
    | cons i t =>
      have hp : (rr S b)[0]? = some i := by rw [hr]; rfl
      have hi := in_row hS (List.mem_of_getElem? hp)
      have h5 := R.2.2.2.2.1.1 i hi.2.1 hi.2.2.1
      unfold wb_Br_clean_31
      refine ⟨fun z => absurd z (nI_ge (by omega) (by omega)), fun _ => ⟨P 0 b, rfl, h3.1, ?_⟩⟩
      rw [h3.2.2.2.2.2.2.1, hp]
      refine ⟨fun z => absurd z (by simp), fun _ => ⟨P 1 i, rfl, h5.1, C_leave R hS hp (by decide) (fun w8 R8 F8 _ i14 e14 => ?_)⟩⟩
      rw [e14, nI_1]
      refine C_clean n (k + 1) (um (ur S b ((rr S b).eraseIdx 0)) 13 i 2) w8 (by omega) hN ?_ (ok_leave hS hp (by decide)) hb R8 (F.trans F8) (fun w' R' F' => hQ w' ?_ F')
      · rw [rr_um, rr_ur, if_pos rfl, hr]
        rw [hr] at hl
        simp at hl ⊢
        exact hl
      · have e : cleanN S b (n + 1) = cleanN (um (ur S b ((rr S b).eraseIdx 0)) 13 i 2) b n := by
          conv => lhs; unfold cleanN
          rw [hr]
        rw [e]; exact R'
theorem B_clean {x1 : Int32} {nc ns : Nat} {Q : Int32 → Wd → Prop} {X : String → Wd → Prop} (R : RC e0 S w q P LE LW) (hS : okS S) (hc : 2 ≤ nc) (hs : 12 ≤ ns) (h1 : ¬ (∃ b, b < nB S ∧ x1 = nI b) → X "java/util/NoSuchElementException" w) (h2 : ∀ b, b < nB S → x1 = nI b → ¬ mm S 6 b = 0 → X "java/lang/IllegalStateException" w)
    (h0 : ∀ b, b < nB S → x1 = nI b → mm S 6 b = 0 → ∀ w', RC e0 (cleanN S b (rr S b).length) w' q P LE LW → FrC w w' → Q (nI (rr S b).length) w') : wp_Br_clean e0 mi q x1 w nc ns Q X := by
  unfold wp_Br_clean
  refine ⟨R.1.1, 1, 6, by omega, by omega, C_fb R hS (fun z => ⟨Nat.le_refl _, Nat.le_refl _, h1 z⟩) (fun b hb hx => ⟨P 0 b, rfl, (R.2.2.1.1 b hb).1, ?_⟩)⟩
  have h3 := R.2.2.1.1 b hb
  have hlen := (okS_R hS b (by have := hS.1.1; omega)).1
  rw [h3.2.2.2.2.1]
  refine ⟨fun z i12 e12 => ⟨(rr S b).length + 1, ?_⟩, fun z => ⟨by omega, by omega, h2 b hb hx z⟩⟩
  rw [e12, h3.2.2.2.2.2.1]
  exact C_clean (w0 := w) (rr S b).length 0 S w (by omega) hlen rfl hS hb R FrC.rfl (fun w' R' F' => h0 b hb hx z w' R' F')
end CL
end
section
/-! CALLS OF THE CLASS: a new belt -/
theorem map_cg {P P1 : Nat → Nat} {o : Option Nat} (h : ∀ i, o = some i → P1 i = P i) : o.map P1 = o.map P := by
  cases o with
  | none => rfl
  | some i => show some (P1 i) = some (P i); rw [h i rfl]
/-- other cells beyond what there is -/
theorem RC_ext {e0 : Nat} {S : St} {w : Wd} {q : Nat} {P P1 : Nat → Nat → Nat} {LE LW : List (Nat × Ed)} (R : RC e0 S w q P LE LW) (hS : okS S) (h0 : ∀ b, b < nB S → P1 0 b = P 0 b) (h1 : ∀ i, 1 ≤ i → i ≤ nT S → P1 1 i = P 1 i) (h2 : ∀ k, k < 2 * nB S → P1 2 k = P 2 k) (h3 : ∀ s, s < nS S → P1 3 s = P 3 s) (h6 : P1 6 = P 6) (h7 : P1 7 = P 7) : RC e0 S w q P1 LE LW := by
  obtain ⟨r1, r2, r3, r4, r5, r6, r7, r8⟩ := R
  have hrow : ∀ b i, i ∈ rr S b → P1 1 i = P 1 i := fun b i hi => by
    have := in_row hS hi
    exact h1 i this.2.1 this.2.2.1
  refine ⟨?_, ⟨fun k hk => ?_, ?_, ?_⟩, ⟨fun b hb => ?_, fun b c hb hc hz => ?_⟩, ⟨fun k hk => ?_, fun j k hj hk hz => ?_⟩, ⟨fun i i1 i2' => ?_, fun i j i1 i2' j1 j2 hz => ?_⟩, fun b p i hp => ?_, fun s hs => ?_, r8⟩
  · unfold c1 at *; rw [h6]; exact r1
  · have e : lsx S P1 LE LW k = lsx S P LE LW k := by
      unfold lsx
      match k, hk with
      | 0, _ => exact List.map_congr_left (fun b hb => h0 b (List.mem_range.mp hb))
      | 1, _ => exact List.map_congr_left (fun i hi => h1 (i + 1) (by omega) (by have := List.mem_range.mp hi; omega))
      | 2, _ => exact List.map_congr_left (fun s hs => h3 s (List.mem_range.mp hs))
      | 3, _ => rfl
      | 4, _ => rfl
      | 5, _ => exact List.map_congr_left (fun i hi => h1 i (hS.2.2.2.2.2.2.1.2 i hi).1 (hS.2.2.2.2.2.2.1.2 i hi).2.1)
    rw [h6, h7, e]; exact r2.1 k hk
  · rw [h6]; exact r2.2.1
  · rw [h7]; exact r2.2.2
  · obtain ⟨q0, q1, q2, q3, q4, q5, q6, q7, q8, q9⟩ := r3.1 b hb
    rw [h0 b hb, h2 (2 * b) (by omega), h2 (2 * b + 1) (by omega), map_cg (fun i hi => hrow b i (List.mem_of_getElem? hi)), map_cg (fun i hi => hrow b i (List.mem_of_getLast? hi))]
    exact ⟨q0, q1, q2, q3, q4, q5, q6, q7, q8, q9⟩
  · rw [h0 b hb, h0 c hc] at hz; exact r3.2 b c hb hc hz
  · obtain ⟨q0, q1, q2, q3, q4⟩ := r4.1 k hk
    rw [h2 k hk]
    exact ⟨q0, q1, q2, fun c hc hz => by rw [h0 c hc]; exact q3 c hc hz, q4⟩
  · rw [h2 j hj, h2 k hk] at hz; exact r4.2 j k hj hk hz
  · obtain ⟨q0, q1, q2, q3, q4, q5, q6⟩ := r5.1 i i1 i2'
    rw [h1 i i1 i2']
    exact ⟨q0, q1, q2, q3, q4, fun b hb hz => by rw [h0 b hb]; exact q5 b hb hz, q6⟩
  · rw [h1 i i1 i2', h1 j j1 j2] at hz; exact r5.2 i j i1 i2' j1 j2 hz
  · have hi := hrow b i (List.mem_of_getElem? hp)
    obtain ⟨q1, q2⟩ := r6 b p i hp
    rw [hi, map_cg (fun j hj => hrow b j (prev_mem hj)), map_cg (fun j hj => hrow b j (List.mem_of_getElem? hj))]
    exact ⟨q1, q2⟩
  · obtain ⟨q0, q1, q2, q3, q4⟩ := r7 s hs
    rw [h3 s hs]
    exact ⟨q0, q1, fun b hb hz => by rw [h0 b hb]; exact q2 b hb hz, q3, q4⟩
def beltS (S : St) (l v : Int32) : St := uB (um (um (um (um (um S 4 (nB S) l) 5 (nB S) v) 6 (nB S) 1) 7 (2 * nB S) (-1)) 7 (2 * nB S + 1) (-1)) (nB S + 1)
theorem mm_belt (S : St) (l v : Int32) {k : Nat} (h : k ≠ 4 ∧ k ≠ 5 ∧ k ≠ 6 ∧ k ≠ 7) : mm (beltS S l v) k = mm S k := by
  unfold beltS
  rw [mm_uB, mm_um_ne _ _ _ h.2.2.2, mm_um_ne _ _ _ h.2.2.2, mm_um_ne _ _ _ h.2.2.1, mm_um_ne _ _ _ h.2.1, mm_um_ne _ _ _ h.1]
theorem mm4_belt (S : St) (l v : Int32) (b : Nat) : mm (beltS S l v) 4 b = if b = nB S then l else mm S 4 b := by
  unfold beltS
  rw [mm_uB, mm_um_ne _ _ _ (by decide), mm_um_ne _ _ _ (by decide), mm_um_ne _ _ _ (by decide), mm_um_ne _ _ _ (by decide), mm_um]
  by_cases h : b = nB S
  · rw [if_pos ⟨rfl, h⟩, if_pos h]
  · rw [if_neg (fun z => h z.2), if_neg h]
theorem mm5_belt (S : St) (l v : Int32) (b : Nat) : mm (beltS S l v) 5 b = if b = nB S then v else mm S 5 b := by
  unfold beltS
  rw [mm_uB, mm_um_ne _ _ _ (by decide), mm_um_ne _ _ _ (by decide), mm_um_ne _ _ _ (by decide), mm_um]
  by_cases h : b = nB S
  · rw [if_pos ⟨rfl, h⟩, if_pos h]
  · rw [if_neg (fun z => h z.2), if_neg h, mm_um_ne _ _ _ (by decide)]
theorem mm6_belt (S : St) (l v : Int32) (b : Nat) : mm (beltS S l v) 6 b = if b = nB S then 1 else mm S 6 b := by
  unfold beltS
  rw [mm_uB, mm_um_ne _ _ _ (by decide), mm_um_ne _ _ _ (by decide), mm_um]
  by_cases h : b = nB S
  · rw [if_pos ⟨rfl, h⟩, if_pos h]
  · rw [if_neg (fun z => h z.2), if_neg h, mm_um_ne _ _ _ (by decide), mm_um_ne _ _ _ (by decide)]
theorem mm7_belt (S : St) (l v : Int32) (k : Nat) : mm (beltS S l v) 7 k = if k = 2 * nB S ∨ k = 2 * nB S + 1 then -1 else mm S 7 k := by
  unfold beltS
  rw [mm_uB, mm_um]
  by_cases h1 : k = 2 * nB S + 1
  · rw [if_pos ⟨rfl, h1⟩, if_pos (Or.inr h1)]
  · rw [if_neg (fun z => h1 z.2), mm_um]
    by_cases h0 : k = 2 * nB S
    · rw [if_pos ⟨rfl, h0⟩, if_pos (Or.inl h0)]
    · rw [if_neg (fun z => h0 z.2), if_neg (fun z => by omega), mm_um_ne _ _ _ (by decide), mm_um_ne _ _ _ (by decide), mm_um_ne _ _ _ (by decide)]
theorem rr_belt (S : St) (l v : Int32) : rr (beltS S l v) = rr S := (rfl)
theorem nB_belt (S : St) (l v : Int32) : nB (beltS S l v) = nB S + 1 := (rfl)
/-- nothing went by ways that are not there -/
def ok9 (S : St) : Prop := ∀ k, 2 * nB S ≤ k → mm S 9 k = 0
def Pb (P : Nat → Nat → Nat) (n x y z : Nat) : Nat → Nat → Nat := fun a j => if a = 0 ∧ j = n then x else if a = 2 ∧ j = 2 * n then y else if a = 2 ∧ j = 2 * n + 1 then z else P a j
theorem newB_kp {w w' : Wd} {x y z : Nat} {no ln sp : Int32} {X : Nat → Prop} (h : newB w x y z no ln sp) (K : Kp X w w') (hx : ¬ X x) (hy : ¬ X y) (hz : ¬ X z) : newB w' x y z no ln sp := by
  obtain ⟨b0, b1, b2, b3, b4, b5, b6, b7, b8, b9, y0, y1, y2, y3, z0, z1, z2, z3⟩ := h
  unfold newB
  rw [K.I b0.1 hx, K.R b0.1 hx, K.I y0.1 hy, K.R y0.1 hy, K.I z0.1 hz, K.R z0.1 hz]
  exact ⟨K.is b0, b1, b2, b3, b4, b5, b6, b7, b8, b9, K.is y0, y1, y2, y3, K.is z0, z1, z2, z3⟩
end
section
/-! CALLS OF THE CLASS: a new belt, put into its list -/
theorem Pb_0 (P : Nat → Nat → Nat) (n x y z : Nat) : Pb P n x y z 0 n = x := by unfold Pb; rw [if_pos ⟨rfl, rfl⟩]
theorem Pb_0o (P : Nat → Nat → Nat) (n x y z : Nat) {b : Nat} (h : b ≠ n) : Pb P n x y z 0 b = P 0 b := by
  unfold Pb; rw [if_neg (fun u => h u.2), if_neg (fun u => absurd u.1 (by decide)), if_neg (fun u => absurd u.1 (by decide))]
theorem Pb_2a (P : Nat → Nat → Nat) (n x y z : Nat) : Pb P n x y z 2 (2 * n) = y := by
  unfold Pb; rw [if_neg (fun u => absurd u.1 (by decide)), if_pos ⟨rfl, rfl⟩]
theorem Pb_2b (P : Nat → Nat → Nat) (n x y z : Nat) : Pb P n x y z 2 (2 * n + 1) = z := by
  unfold Pb; rw [if_neg (fun u => absurd u.1 (by decide)), if_neg (fun u => by omega), if_pos ⟨rfl, rfl⟩]
theorem Pb_2o (P : Nat → Nat → Nat) (n x y z : Nat) {k : Nat} (h : k < 2 * n) : Pb P n x y z 2 k = P 2 k := by
  unfold Pb; rw [if_neg (fun u => absurd u.1 (by decide)), if_neg (fun u => by omega), if_neg (fun u => by omega)]
theorem Pb_o (P : Nat → Nat → Nat) (n x y z : Nat) {a : Nat} (h0 : a ≠ 0) (h2 : a ≠ 2) : Pb P n x y z a = P a := by
  funext j; unfold Pb; rw [if_neg (fun u => h0 u.1), if_neg (fun u => h2 u.1), if_neg (fun u => h2 u.1)]
theorem RC_belt {e0 q x y z d' : Nat} {S : St} {w w' : Wd} {P : Nat → Nat → Nat} {LE LW : List (Nat × Ed)} {l v : Int32} (R : RC e0 S w q P LE LW) (hS : okS S) (h9 : ok9 S) (hN : newB w x y z (nI (nB S)) l v) (hx : ∀ b, b < nB S → P 0 b ≠ x) (hy : ∀ k, k < 2 * nB S → P 2 k ≠ y) (hz : ∀ k, k < 2 * nB S → P 2 k ≠ z) (hyz : y ≠ z)
    (hK : isK e0 w' (P 6 0) d' (nB S + 1) ((List.range (nB S)).map (P 0) ++ [x])) (hd : (d' = P 7 0 ∧ 0 < nB S) ∨ d' ∉ wL w) (K : Kp (fun u => u = P 6 0 ∨ (0 < nB S ∧ u = P 7 0)) w w') : RC e0 (beltS S l v) w' q (Pn (Pb P (nB S) x y z) 0 d') LE LW ∧ FrC w w' := by
  have hb8 := hS.1.1
  have R1 : RC e0 S w q (Pb P (nB S) x y z) LE LW := RC_ext R hS (fun b hb => Pb_0o P _ x y z (by omega)) (fun i _ _ => by rw [Pb_o P _ x y z (by decide) (by decide)]) (fun k hk => Pb_2o P _ x y z hk) (fun s _ => by rw [Pb_o P _ x y z (by decide) (by decide)]) (Pb_o P _ x y z (by decide) (by decide)) (Pb_o P _ x y z (by decide) (by decide))
  have P6 : Pb P (nB S) x y z 6 = P 6 := Pb_o P _ x y z (by decide) (by decide)
  have P7 : Pb P (nB S) x y z 7 = P 7 := Pb_o P _ x y z (by decide) (by decide)
  have gk := R.2.1.1 0 (by decide)
  have kN : ∀ ci, ci ≠ 7 → ci ≠ 100 → ∀ a, bw_is w a ci → ¬ (a = P 6 0 ∨ (0 < nB S ∧ a = P 7 0)) := fun ci c7' c100 a ha u => by
    rcases u with u | ⟨u1, u2⟩
    · exact absurd u (is_ne ha gk.1 c7')
    · exact absurd u2 (is_ne ha (gk.2.2.2.2.2.2 u1).2.1 c100)
  have hN' := newB_kp hN K (kN 0 (by decide) (by decide) x hN.1) (kN 4 (by decide) (by decide) y hN.2.2.2.2.2.2.2.2.2.2.1) (kN 4 (by decide) (by decide) z hN.2.2.2.2.2.2.2.2.2.2.2.2.2.2.1)
  obtain ⟨r1, r2, r3, r4, r5, r6, r7, r8⟩ := R1
  have e1 := c1_kp r1 K (kN 5 (by decide) (by decide))
  have e3 := c3_kp r3 K (kN 0 (by decide) (by decide))
  have e4 := c4_kp r4 K (kN 4 (by decide) (by decide))
  have e5 := c5_kp r5 K (kN 2 (by decide) (by decide))
  have e6 := c6_kp r6 r5 hS K (kN 2 (by decide) (by decide))
  have e7 := c7_kp r7 K (kN 3 (by decide) (by decide))
  have e8 := c8_kp r8 K (kN 1 (by decide) (by decide))
  have em : ∀ k, k ≠ 4 ∧ k ≠ 5 ∧ k ≠ 6 ∧ k ≠ 7 → mm (beltS S l v) k = mm S k := fun k hk => mm_belt S l v hk
  obtain ⟨b0, b1, b2, b3, b4, b5, b6, b7, b8, b9, y0, y1, y2, y3, z0, z1, z2, z3⟩ := hN'
  have rn : rr S (nB S) = [] := hS.2.1 (nB S) (Nat.le_refl _)
  refine ⟨⟨P_eq_c1 (c1_eq e1 (em 1 (by decide)) (em 2 (by decide)) (em 30 (by decide))), c2_add (S' := beltS S l v) (LE' := LE) (LW' := LW) r2 (k := 0) (by decide) (by rw [P6]; exact hK) (by rw [P7]; exact hd) (by rw [P6, P7]; exact K) (fun j hj hjk => ?_) rfl (fun j hj hjk => ?_) ?_, P_eq_c3 ⟨fun b hb => ?_, fun b c hb hc hu => ?_⟩, P_eq_c4 ⟨fun k hk => ?_, fun j k hj hk hu => ?_⟩, P_eq_c5 ⟨fun i i1 i2' => ?_, e5.2⟩, P_eq_c6 e6, P_eq_c7 (fun s hs => ?_), c8_eq e8 rfl rfl⟩, K.frC (fun a ha hu => ?_)⟩
  · match j, hj, hjk with
    | 0, _, h => exact absurd rfl h
    | 1, _, _ => rfl
    | 2, _, _ => rfl
    | 3, _, _ => rfl
    | 4, _, _ => rfl
    | 5, _, _ => rfl
  · match j, hj, hjk with
    | 0, _, h => exact absurd rfl h
    | 1, _, _ => rfl
    | 2, _, _ => rfl
    | 3, _, _ => rfl
    | 4, _, _ => rfl
    | 5, _, _ => rfl
  · show (List.range (nB S + 1)).map (Pb P (nB S) x y z 0) = _
    rw [List.range_succ, List.map_append]
    congr 1
    · exact List.map_congr_left (fun b hb => Pb_0o P _ x y z (by have := List.mem_range.mp hb; omega))
    · show [Pb P (nB S) x y z 0 (nB S)] = [x]
      rw [Pb_0]
  · replace hb : b < nB S + 1 := hb
    rw [mm4_belt, mm5_belt, mm6_belt, rr_belt]
    by_cases hbn : b = nB S
    · subst hbn
      rw [if_pos rfl, if_pos rfl, if_pos rfl, Pb_0, Pb_2a, Pb_2b, rn]
      exact ⟨b0, b1, b2, b3, b4, b7, b5, b6, b8, b9⟩
    · rw [if_neg hbn, if_neg hbn, if_neg hbn]
      exact e3.1 b (by omega)
  · replace hb : b < nB S + 1 := hb
    replace hc : c < nB S + 1 := hc
    by_cases hbn : b = nB S
    · by_cases hcn : c = nB S
      · omega
      · rw [hbn, Pb_0, Pb_0o P _ x y z hcn] at hu
        exact absurd hu.symm (hx c (by omega))
    · by_cases hcn : c = nB S
      · rw [hcn, Pb_0, Pb_0o P _ x y z hbn] at hu
        exact absurd hu (hx b (by omega))
      · exact e3.2 b c (by omega) (by omega) hu
  · replace hk : k < 2 * (nB S + 1) := hk
    rw [em 9 (by decide), em 8 (by decide), mm7_belt]
    by_cases hk2 : k = 2 * nB S ∨ k = 2 * nB S + 1
    · rw [if_pos hk2]
      rcases hk2 with hk2 | hk2
      · rw [hk2, Pb_2a]
        exact ⟨y0, by rw [y3, h9 _ (by omega)], fun _ => y1, fun c hc hu => absurd hu.symm (nI_nm (by have : c < nB S + 1 := hc; omega)), fun hu => absurd rfl hu⟩
      · rw [hk2, Pb_2b]
        exact ⟨z0, by rw [z3, h9 _ (by omega)], fun _ => z1, fun c hc hu => absurd hu.symm (nI_nm (by have : c < nB S + 1 := hc; omega)), fun hu => absurd rfl hu⟩
    · rw [if_neg hk2]
      obtain ⟨q0, q1, q2, q3, q4⟩ := e4.1 k (by omega)
      refine ⟨q0, q1, q2, fun c hc hu => ?_, q4⟩
      replace hc : c < nB S + 1 := hc
      by_cases hcn : c = nB S
      · exfalso
        rcases hS.2.2.2.2.2.1 (k / 2) (by omega) (k % 2) (by omega) with h | ⟨c', c1', c2', c3'⟩
        · rw [show 2 * (k / 2) + k % 2 = k by omega, hu] at h
          exact nI_nm (by omega) h
        · rw [show 2 * (k / 2) + k % 2 = k by omega, hu] at c3'
          have := (nI_eq (by omega) (by omega)).mp c3'
          omega
      · exact q3 c (by omega) hu
  · replace hj : j < 2 * (nB S + 1) := hj
    replace hk : k < 2 * (nB S + 1) := hk
    by_cases hjo : j < 2 * nB S
    · by_cases hko : k < 2 * nB S
      · exact e4.2 j k hjo hko hu
      · rw [Pb_2o P _ x y z hjo] at hu
        have hk3 : k = 2 * nB S ∨ k = 2 * nB S + 1 := by omega
        rcases hk3 with hk3 | hk3
        · rw [hk3, Pb_2a] at hu; exact absurd hu (hy j hjo)
        · rw [hk3, Pb_2b] at hu; exact absurd hu (hz j hjo)
    · have hj3 : j = 2 * nB S ∨ j = 2 * nB S + 1 := by omega
      by_cases hko : k < 2 * nB S
      · rw [Pb_2o P _ x y z hko] at hu
        rcases hj3 with hj3 | hj3
        · rw [hj3, Pb_2a] at hu; exact absurd hu.symm (hy k hko)
        · rw [hj3, Pb_2b] at hu; exact absurd hu.symm (hz k hko)
      · have hk3 : k = 2 * nB S ∨ k = 2 * nB S + 1 := by omega
        rcases hj3 with hj3 | hj3 <;> rcases hk3 with hk3 | hk3
        · omega
        · rw [hj3, hk3, Pb_2a, Pb_2b] at hu; exact absurd hu hyz
        · rw [hj3, hk3, Pb_2a, Pb_2b] at hu; exact absurd hu.symm hyz
        · omega
  · rw [em 16 (by decide), em 20 (by decide), em 13 (by decide), em 14 (by decide), em 15 (by decide), em 17 (by decide), em 18 (by decide), em 19 (by decide)]
    obtain ⟨q0, q1, q2, q3, q4, q5, q6⟩ := e5.1 i i1 i2'
    refine ⟨q0, q1, q2, q3, q4, fun b hb hu => ?_, q6⟩
    replace hb : b < nB S + 1 := hb
    obtain ⟨b', b'1, b'2, -⟩ := hS.2.2.2.2.1 i i1 i2'
    have : b = b' := (nI_eq (by omega) (by omega)).mp (hu.symm.trans b'2)
    exact q5 b (by omega) hu
  · obtain ⟨q0, q1, q2, q3, q4⟩ := e7 s hs
    rw [em 22 (by decide), em 23 (by decide), em 24 (by decide)]
    refine ⟨q0, q1, fun b hb hu => ?_, q3, q4⟩
    replace hb : b < nB S + 1 := hb
    obtain ⟨b', b'1, b'2⟩ := hS.2.2.2.2.2.2.2.1 s hs
    have : b = b' := (nI_eq (by omega) (by omega)).mp (hu.symm.trans b'2)
    exact q2 b (by omega) hu
  · rcases hu with u | ⟨u1, u2⟩
    · rw [u, gk.1.2]; unfold kM; omega
    · rw [u2, (gk.2.2.2.2.2.2 u1).2.1.2]; unfold kM; omega
theorem B_belt {e0 mi q : Nat} {P : Nat → Nat → Nat} {S : St} {w : Wd} {LE LW : List (Nat × Ed)} {x1 x2 : Int32} {nc ns : Nat} {Q : Int32 → Wd → Prop} {X : String → Wd → Prop} (R : RC e0 S w q P LE LW) (hS : okS S) (h9 : ok9 S) (hc : 6 + gC (nB S) (nB S) ≤ nc) (hs : 40 + gS (nB S) (nB S) ≤ ns) (h1 : ¬ (rng x1 1 10000 ∧ rng x2 0 1000) → X "java/lang/IllegalArgumentException" w) (h2 : rng x1 1 10000 ∧ rng x2 0 1000 → nB S = 8 → X "java/lang/UnsupportedOperationException" w)
    (h0 : rng x1 1 10000 ∧ rng x2 0 1000 → nB S < 8 → ∀ w' P', RC e0 (beltS S x1 x2) w' q P' LE LW → FrC w w' → Q (nI (nB S)) w') : wp_Br_belt e0 mi q x1 x2 w nc ns Q X := by
  have hb8 := hS.1.1
  unfold wp_Br_belt
  refine ⟨1, 6, by omega, by omega, ck_ok (fun z => ⟨Nat.le_refl _, Nat.le_refl _, h1 (fun y => z y.1)⟩) (fun z1 => ⟨1, 6, by omega, by omega, ck_ok (fun z => ⟨Nat.le_refl _, Nat.le_refl _, h1 (fun y => z y.2)⟩) (fun z2 => ⟨R.1.1, C_size R (k := 0) (by decide) ?_⟩)⟩)⟩
  rw [lsx0]
  refine ⟨fun z => ⟨R.1.1, by omega, by omega, fun x hx w31 e31 => ⟨2, 6, by omega, by omega, ?_⟩⟩, fun z => ⟨by omega, by omega, h2 ⟨z1, z2⟩ ?_⟩⟩
  · have hB7 : nB S < 8 := by
      rcases Nat.lt_or_ge (nB S) 8 with u | u
      · exact u
      · exact absurd z (nI_nlt (b := 8) u (by omega))
    have K0 : Kp (fun _ => False) w w31 := by rw [e31]; exact Kp.rfl.new hx
    have hx1 : bw_is w31 x 0 := by rw [e31]; exact bw_is_self _ x 0 0
    refine Bt_init_ok hx1 (by omega) (by omega) (fun w34 y z' hy hz hyz hN K1 => ?_)
    have K2 : Kp (fun _ => False) w w34 := ((K0.mono (fun _ _ u => u.elim)).trans K1).mono (fun b hb u => hx (u ▸ hb))
    have R2 : RC e0 S w34 q P LE LW := RC_kp R hS K2 (fun a ci ha u => False.elim u)
    have hK0 : isK e0 w34 (P 6 0) (P 7 0) (nB S) ((List.range (nB S)).map (P 0)) := R2.2.1.1 0 (by decide)
    have hlen : ((List.range (nB S)).map (P 0)).length = nB S := by simp
    refine ⟨P 6 0, R.1.2.2.2.2 0 (by decide), hK0.1, gC (nB S) (nB S), gS (nB S) (nB S), by omega, by omega, isK_add hK0 ⟨0, hN.1, by decide, by decide⟩ (by omega) (by rw [hlen]; exact Nat.le_refl _) (by rw [hlen]; exact Nat.le_refl _) (fun w' d' hK hd K => ?_)⟩
    rw [hlen, Nat.max_eq_right (by omega)] at hK
    have hy' : y ∉ wL w := fun u => hy (K0.L u)
    have hz' : z' ∉ wL w := fun u => hz (K0.L u)
    obtain ⟨R', F'⟩ := RC_belt R2 hS h9 hN (fun b hb u => hx (u ▸ (R.2.2.1.1 b hb).1.1)) (fun k hk u => hy' (u ▸ (R.2.2.2.1.1 k hk).1.1)) (fun k hk u => hz' (u ▸ (R.2.2.2.1.1 k hk).1.1)) hyz hK hd K
    exact h0 ⟨z1, z2⟩ hB7 w' _ R' ((K2.frC (fun a ha u => False.elim u)).trans F')
  · rcases Nat.lt_or_ge (nB S) 8 with u | u
    · exact absurd (nI_lt (b := 8) u (by omega)) z
    · omega
end
section
/-! CALLS OF THE CLASS: a new scanner, a new item -/
def scanS (S : St) (x1 p d : Int32) : St := uS (um (um (um S 22 (nS S) x1) 23 (nS S) p) 24 (nS S) d) (nS S + 1)
theorem mm_scan (S : St) (x1 p d : Int32) {k : Nat} (h : k ≠ 22 ∧ k ≠ 23 ∧ k ≠ 24) : mm (scanS S x1 p d) k = mm S k := by
  unfold scanS
  rw [mm_uS, mm_um_ne _ _ _ h.2.2, mm_um_ne _ _ _ h.2.1, mm_um_ne _ _ _ h.1]
theorem mm22_scan (S : St) (x1 p d : Int32) (s : Nat) : mm (scanS S x1 p d) 22 s = if s = nS S then x1 else mm S 22 s := by
  unfold scanS
  rw [mm_uS, mm_um_ne _ _ _ (by decide), mm_um_ne _ _ _ (by decide), mm_um]
  by_cases h : s = nS S
  · rw [if_pos ⟨rfl, h⟩, if_pos h]
  · rw [if_neg (fun z => h z.2), if_neg h]
theorem mm23_scan (S : St) (x1 p d : Int32) (s : Nat) : mm (scanS S x1 p d) 23 s = if s = nS S then p else mm S 23 s := by
  unfold scanS
  rw [mm_uS, mm_um_ne _ _ _ (by decide), mm_um]
  by_cases h : s = nS S
  · rw [if_pos ⟨rfl, h⟩, if_pos h]
  · rw [if_neg (fun z => h z.2), if_neg h, mm_um_ne _ _ _ (by decide)]
theorem mm24_scan (S : St) (x1 p d : Int32) (s : Nat) : mm (scanS S x1 p d) 24 s = if s = nS S then d else mm S 24 s := by
  unfold scanS
  rw [mm_uS, mm_um]
  by_cases h : s = nS S
  · rw [if_pos ⟨rfl, h⟩, if_pos h]
  · rw [if_neg (fun z => h z.2), if_neg h, mm_um_ne _ _ _ (by decide), mm_um_ne _ _ _ (by decide)]
/-- one more cell of a family -/
def P1x (P : Nat → Nat → Nat) (f n x : Nat) : Nat → Nat → Nat := fun a j => if a = f ∧ j = n then x else P a j
theorem P1x_at (P : Nat → Nat → Nat) (f n x : Nat) : P1x P f n x f n = x := by unfold P1x; rw [if_pos ⟨rfl, rfl⟩]
theorem P1x_ne (P : Nat → Nat → Nat) (f n x : Nat) {j : Nat} (h : j ≠ n) : P1x P f n x f j = P f j := by unfold P1x; rw [if_neg (fun u => h u.2)]
theorem P1x_o (P : Nat → Nat → Nat) (f n x : Nat) {a : Nat} (h : a ≠ f) : P1x P f n x a = P a := by
  funext j; unfold P1x; rw [if_neg (fun u => h u.1)]
section CL
variable {e0 mi q : Nat} {P : Nat → Nat → Nat} {S : St} {w : Wd} {LE LW : List (Nat × Ed)}
theorem RC_scan {x d' b : Nat} {w' : Wd} {p dl : Int32} (R : RC e0 S w q P LE LW) (hS : okS S) (hb : b < nB S) (i0 : bw_is w x 3) (i1 : wI w x 0 = nI (nS S)) (i2' : wR w x 1 = some (P 0 b)) (i3 : wI w x 2 = p) (i4 : wI w x 3 = dl)
    (hK : isK e0 w' (P 6 2) d' (nS S + 1) ((List.range (nS S)).map (P 3) ++ [x])) (hd : (d' = P 7 2 ∧ 0 < nS S) ∨ d' ∉ wL w) (K : Kp (fun u => u = P 6 2 ∨ (0 < nS S ∧ u = P 7 2)) w w') : RC e0 (scanS S (nI b) p dl) w' q (Pn (P1x P 3 (nS S) x) 2 d') LE LW ∧ FrC w w' := by
  have hb8 := hS.1.1
  have R1 : RC e0 S w q (P1x P 3 (nS S) x) LE LW := RC_ext R hS (fun b _ => by rw [P1x_o P 3 _ x (by decide)]) (fun i _ _ => by rw [P1x_o P 3 _ x (by decide)]) (fun k _ => by rw [P1x_o P 3 _ x (by decide)]) (fun s hs => P1x_ne P 3 _ x (by omega)) (P1x_o P 3 _ x (by decide)) (P1x_o P 3 _ x (by decide))
  have P6 : P1x P 3 (nS S) x 6 = P 6 := P1x_o P 3 _ x (by decide)
  have P7 : P1x P 3 (nS S) x 7 = P 7 := P1x_o P 3 _ x (by decide)
  have P0 : P1x P 3 (nS S) x 0 = P 0 := P1x_o P 3 _ x (by decide)
  have gk := R.2.1.1 2 (by decide)
  have kN : ∀ ci, ci ≠ 7 → ci ≠ 100 → ∀ a, bw_is w a ci → ¬ (a = P 6 2 ∨ (0 < nS S ∧ a = P 7 2)) := fun ci c7' c100 a ha u => by
    rcases u with u | ⟨u1, u2⟩
    · exact absurd u (is_ne ha gk.1 c7')
    · exact absurd u2 (is_ne ha (gk.2.2.2.2.2.2 u1).2.1 c100)
  have hxX := kN 3 (by decide) (by decide) x i0
  obtain ⟨r1, r2, r3, r4, r5, r6, r7, r8⟩ := R1
  have e1 := c1_kp r1 K (kN 5 (by decide) (by decide))
  have e3 := c3_kp r3 K (kN 0 (by decide) (by decide))
  have e4 := c4_kp r4 K (kN 4 (by decide) (by decide))
  have e5 := c5_kp r5 K (kN 2 (by decide) (by decide))
  have e6 := c6_kp r6 r5 hS K (kN 2 (by decide) (by decide))
  have e7 := c7_kp r7 K (kN 3 (by decide) (by decide))
  have e8 := c8_kp r8 K (kN 1 (by decide) (by decide))
  have em : ∀ k, k ≠ 22 ∧ k ≠ 23 ∧ k ≠ 24 → mm (scanS S (nI b) p dl) k = mm S k := fun k hk => mm_scan S (nI b) p dl hk
  refine ⟨⟨P_eq_c1 (c1_eq e1 (em 1 (by decide)) (em 2 (by decide)) (em 30 (by decide))), c2_add (S' := scanS S (nI b) p dl) (LE' := LE) (LW' := LW) r2 (k := 2) (by decide) (by rw [P6]; exact hK) (by rw [P7]; exact hd) (by rw [P6, P7]; exact K) (fun j hj hjk => ?_) rfl (fun j hj hjk => ?_) ?_, P_eq_c3 ?_, P_eq_c4 (c4_eq e4 rfl (em 7 (by decide)) (em 8 (by decide)) (em 9 (by decide))), P_eq_c5 ?_, P_eq_c6 e6, P_eq_c7 (fun s hs => ?_), c8_eq e8 rfl rfl⟩, K.frC (fun a ha hu => ?_)⟩
  · match j, hj, hjk with
    | 0, _, _ => rfl
    | 1, _, _ => rfl
    | 2, _, h => exact absurd rfl h
    | 3, _, _ => rfl
    | 4, _, _ => rfl
    | 5, _, _ => rfl
  · match j, hj, hjk with
    | 0, _, _ => rfl
    | 1, _, _ => rfl
    | 2, _, h => exact absurd rfl h
    | 3, _, _ => rfl
    | 4, _, _ => rfl
    | 5, _, _ => rfl
  · show (List.range (nS S + 1)).map (P1x P 3 (nS S) x 3) = _
    rw [List.range_succ, List.map_append]
    congr 1
    · exact List.map_congr_left (fun s hs => P1x_ne P 3 _ x (by have := List.mem_range.mp hs; omega))
    · show [P1x P 3 (nS S) x 3 (nS S)] = [x]
      rw [P1x_at]
  · unfold c3 at *
    rw [em 4 (by decide), em 5 (by decide), em 6 (by decide)]; exact e3
  · unfold c5 at *
    rw [em 13 (by decide), em 14 (by decide), em 15 (by decide), em 16 (by decide), em 17 (by decide), em 18 (by decide), em 19 (by decide), em 20 (by decide)]; exact e5
  · replace hs : s < nS S + 1 := hs
    rw [mm22_scan, mm23_scan, mm24_scan]
    by_cases hsn : s = nS S
    · subst hsn
      rw [if_pos rfl, if_pos rfl, if_pos rfl, P1x_at, K.I i0.1 hxX, K.R i0.1 hxX, P0]
      refine ⟨K.is i0, i1, fun c hc hu => ?_, i3, i4⟩
      replace hc : c < nB S := hc
      rw [i2', (nI_eq (by omega) (by omega)).mp hu]
    · rw [if_neg hsn, if_neg hsn, if_neg hsn]
      exact e7 s (by omega)
  · rcases hu with u | ⟨u1, u2⟩
    · rw [u, gk.1.2]; unfold kM; omega
    · rw [u2, (gk.2.2.2.2.2.2 u1).2.1.2]; unfold kM; omega
theorem B_scanner {x1 x2 x3 : Int32} {nc ns : Nat} {Q : Int32 → Wd → Prop} {X : String → Wd → Prop} (R : RC e0 S w q P LE LW) (hS : okS S) (hc : 5 + gC (nS S) (nS S) ≤ nc) (hs : 30 + gS (nS S) (nS S) ≤ ns) (h1 : ¬ (∃ b, b < nB S ∧ x1 = nI b) → X "java/util/NoSuchElementException" w)
    (h2 : ∀ b, b < nB S → x1 = nI b → ¬ (rng x2 1 (mm S 4 b) ∧ rng x3 1 20) → X "java/lang/IllegalArgumentException" w) (h3 : ∀ b, b < nB S → x1 = nI b → rng x2 1 (mm S 4 b) ∧ rng x3 1 20 → nS S = 4 → X "java/lang/UnsupportedOperationException" w)
    (h0 : ∀ b, b < nB S → x1 = nI b → rng x2 1 (mm S 4 b) ∧ rng x3 1 20 → nS S < 4 → ∀ w' P', RC e0 (scanS S (nI b) x2 x3) w' q P' LE LW → FrC w w' → Q (nI (nS S)) w') : wp_Br_scanner e0 mi q x1 x2 x3 w nc ns Q X := by
  have hs4 := hS.1.2.2
  unfold wp_Br_scanner
  refine ⟨R.1.1, 1, 6, by omega, by omega, C_fb R hS (fun z => ⟨Nat.le_refl _, Nat.le_refl _, h1 z⟩) (fun b hb hx => ⟨P 0 b, rfl, (R.2.2.1.1 b hb).1, 1, 6, by omega, by omega, ?_⟩)⟩
  rw [(R.2.2.1.1 b hb).2.2.1]
  refine ck_ok (fun z => ⟨Nat.le_refl _, Nat.le_refl _, h2 b hb hx (fun y => z y.1)⟩) (fun z1 => ⟨1, 6, by omega, by omega, ck_ok (fun z => ⟨Nat.le_refl _, Nat.le_refl _, h2 b hb hx (fun y => z y.2)⟩) (fun z2 => ⟨R.1.1, C_size R (k := 2) (by decide) ?_⟩)⟩)
  have hl2 : (lsx S P LE LW 2).length = nS S := by show ((List.range (nS S)).map (P 3)).length = _; simp
  rw [hl2]
  refine ⟨fun z => ⟨R.1.1, by omega, by omega, fun x hx' w41 e41 => ?_⟩, fun z => ⟨by omega, by omega, h3 b hb hx ⟨z1, z2⟩ ?_⟩⟩
  · have hn4 : nS S < 4 := by
      rcases Nat.lt_or_ge (nS S) 4 with u | u
      · exact u
      · exact absurd z (nI_nlt (b := 4) u (by omega))
    unfold wp_Sc_init
    have ix : bw_is w41 x 3 := by rw [e41]; exact bw_is_self _ x 3 0
    have K2 : Kp (fun _ => False) w (sI (sI (sR (sI w41 x 0 (nI (nS S))) x 1 (some (P 0 b))) x 2 x2) x 3 x3) := by
      rw [e41]
      exact ((((Kp.rfl.new hx').sI (fun u => hx' u)).sR (fun u => hx' u)).sI (fun u => hx' u)).sI (fun u => hx' u)
    have R2 := RC_kp R hS K2 (fun a ci ha u => False.elim u)
    refine ⟨ix, P 6 2, R.1.2.2.2.2 2 (by decide), (R2.2.1.1 2 (by decide)).1, gC (nS S) (nS S), gS (nS S) (nS S), by omega, by omega, ?_⟩
    have f0 : bw_is (sI (sI (sR (sI w41 x 0 (nI (nS S))) x 1 (some (P 0 b))) x 2 x2) x 3 x3) x 3 := is_eq (by rw [pL_I, pL_I, pL_R, pL_I]) (by rw [pK_I, pK_I, pK_R, pK_I]) ix
    have f1 : wI (sI (sI (sR (sI w41 x 0 (nI (nS S))) x 1 (some (P 0 b))) x 2 x2) x 3 x3) x 0 = nI (nS S) := by rw [pI_I, if_neg (fun u => by simp at u), pI_I, if_neg (fun u => by simp at u), pI_R, pI_I, if_pos ⟨rfl, rfl⟩]
    have f2 : wR (sI (sI (sR (sI w41 x 0 (nI (nS S))) x 1 (some (P 0 b))) x 2 x2) x 3 x3) x 1 = some (P 0 b) := by rw [pR_I, pR_I, pR_R, if_pos ⟨rfl, rfl⟩]
    have f3 : wI (sI (sI (sR (sI w41 x 0 (nI (nS S))) x 1 (some (P 0 b))) x 2 x2) x 3 x3) x 2 = x2 := by rw [pI_I, if_neg (fun u => by simp at u), pI_I, if_pos ⟨rfl, rfl⟩]
    have f4 : wI (sI (sI (sR (sI w41 x 0 (nI (nS S))) x 1 (some (P 0 b))) x 2 x2) x 3 x3) x 3 = x3 := by rw [pI_I, if_pos ⟨rfl, rfl⟩]
    have F2 : FrC w (sI (sI (sR (sI w41 x 0 (nI (nS S))) x 1 (some (P 0 b))) x 2 x2) x 3 x3) := K2.frC (fun a ha u => False.elim u)
    have hK0 : isK e0 (sI (sI (sR (sI w41 x 0 (nI (nS S))) x 1 (some (P 0 b))) x 2 x2) x 3 x3) (P 6 2) (P 7 2) (nS S) ((List.range (nS S)).map (P 3)) := R2.2.1.1 2 (by decide)
    have hlen : ((List.range (nS S)).map (P 3)).length = nS S := by simp
    refine isK_add hK0 ⟨3, f0, by decide, by decide⟩ (by omega) (by rw [hlen]; exact Nat.le_refl _) (by rw [hlen]; exact Nat.le_refl _) (fun w' d' hK hd K => ?_)
    rw [hlen, Nat.max_eq_right (by omega)] at hK
    obtain ⟨R', F'⟩ := RC_scan R2 hS hb f0 f1 f2 f3 f4 hK hd K
    exact h0 b hb hx ⟨z1, z2⟩ hn4 w' _ R' (F2.trans F')
  · rcases Nat.lt_or_ge (nS S) 4 with u | u
    · exact absurd (nI_lt (b := 4) u (by omega)) z
    · omega
end CL
end
section
/-! CALLS OF THE CLASS: a new item -/
def item1 (S : St) (l : Int32) : St := uT (um (um (um S 16 (nT S + 1) l) 13 (nT S + 1) 0) 20 (nT S + 1) (mm S 1 0)) (nT S + 1)
def itemS (S : St) (b : Nat) (l : Int32) : St := comeS (item1 S l) (nT S + 1) b
theorem mm_item1 (S : St) (l : Int32) {k : Nat} (h : k ≠ 16 ∧ k ≠ 13 ∧ k ≠ 20) : mm (item1 S l) k = mm S k := by
  unfold item1
  rw [mm_uT, mm_um_ne _ _ _ h.2.2, mm_um_ne _ _ _ h.2.1, mm_um_ne _ _ _ h.1]
theorem mm16_item1 (S : St) (l : Int32) (a : Nat) : mm (item1 S l) 16 a = if a = nT S + 1 then l else mm S 16 a := by
  unfold item1
  rw [mm_uT, mm_um_ne _ _ _ (by decide), mm_um_ne _ _ _ (by decide), mm_um]
  by_cases h : a = nT S + 1
  · rw [if_pos ⟨rfl, h⟩, if_pos h]
  · rw [if_neg (fun z => h z.2), if_neg h]
theorem mm13_item1 (S : St) (l : Int32) (a : Nat) : mm (item1 S l) 13 a = if a = nT S + 1 then 0 else mm S 13 a := by
  unfold item1
  rw [mm_uT, mm_um_ne _ _ _ (by decide), mm_um]
  by_cases h : a = nT S + 1
  · rw [if_pos ⟨rfl, h⟩, if_pos h]
  · rw [if_neg (fun z => h z.2), if_neg h, mm_um_ne _ _ _ (by decide)]
theorem mm20_item1 (S : St) (l : Int32) (a : Nat) : mm (item1 S l) 20 a = if a = nT S + 1 then mm S 1 0 else mm S 20 a := by
  unfold item1
  rw [mm_uT, mm_um]
  by_cases h : a = nT S + 1
  · rw [if_pos ⟨rfl, h⟩, if_pos h]
  · rw [if_neg (fun z => h z.2), if_neg h, mm_um_ne _ _ _ (by decide), mm_um_ne _ _ _ (by decide)]
section CL
variable {e0 mi q : Nat} {P : Nat → Nat → Nat} {S : St} {w : Wd} {LE LW : List (Nat × Ed)}
theorem C_itInit {x : Nat} {v0 v1 v2 : Int32} {Q : Wd → Prop} (ix : bw_is w x 2) (hQ : ∀ u, (wL u = wL w ∧ wK u = wK w) → Kp (fun a => a = x) w u → wI u x 0 = v0 → wI u x 1 = v1 → wI u x 2 = v2 → wI u x 6 = 0 → Q u) : wp_It_init e0 mi x v0 v1 v2 w Q := by
  unfold wp_It_init
  refine ⟨ix, hQ _ ⟨?_, ?_⟩ ?_ ?_ ?_ ?_ ?_⟩
  · rw [pL_I, pL_I, pL_I, pL_I, pL_I, pL_R, pL_R, pL_R, pL_I, pL_I, pL_I]
  · rw [pK_I, pK_I, pK_I, pK_I, pK_I, pK_R, pK_R, pK_R, pK_I, pK_I, pK_I]
  · exact (((((((((((Kp.rfl (X := fun a => a = x)).sI (fun _ => rfl)).sI (fun _ => rfl)).sI (fun _ => rfl)).sR (fun _ => rfl)).sR (fun _ => rfl)).sR (fun _ => rfl)).sI (fun _ => rfl)).sI (fun _ => rfl)).sI (fun _ => rfl)).sI (fun _ => rfl)).sI (fun _ => rfl)
  · rw [pI_I, if_neg (fun u => by simp at u), pI_I, if_neg (fun u => by simp at u), pI_I, if_neg (fun u => by simp at u), pI_I, if_neg (fun u => by simp at u), pI_I, if_neg (fun u => by simp at u), pI_R, pI_R, pI_R, pI_I, if_neg (fun u => by simp at u), pI_I, if_neg (fun u => by simp at u), pI_I, if_pos ⟨rfl, rfl⟩]
  · rw [pI_I, if_neg (fun u => by simp at u), pI_I, if_neg (fun u => by simp at u), pI_I, if_neg (fun u => by simp at u), pI_I, if_neg (fun u => by simp at u), pI_I, if_neg (fun u => by simp at u), pI_R, pI_R, pI_R, pI_I, if_neg (fun u => by simp at u), pI_I, if_pos ⟨rfl, rfl⟩]
  · rw [pI_I, if_neg (fun u => by simp at u), pI_I, if_neg (fun u => by simp at u), pI_I, if_neg (fun u => by simp at u), pI_I, if_neg (fun u => by simp at u), pI_I, if_neg (fun u => by simp at u), pI_R, pI_R, pI_R, pI_I, if_pos ⟨rfl, rfl⟩]
  · rw [pI_I, if_neg (fun u => by simp at u), pI_I, if_neg (fun u => by simp at u), pI_I, if_neg (fun u => by simp at u), pI_I, if_neg (fun u => by simp at u), pI_I, if_pos ⟨rfl, rfl⟩]
theorem C_newItem {x d' b : Nat} {w' : Wd} {l : Int32} {Q : Wd → Prop} (R : RC e0 S w q P LE LW) (hS : okS S) (hb : b < nB S) (hx : ∀ i, 1 ≤ i → i ≤ nT S → P 1 i ≠ x) (i0 : bw_is w x 2) (i1 : wI w x 0 = nI (nT S + 1)) (i2' : wI w x 1 = l) (i3 : wI w x 2 = mm S 1 0) (i4 : wI w x 6 = 0)
    (hK : isK e0 w' (P 6 1) d' (nT S + 1) ((List.range (nT S)).map (fun i => P 1 (i + 1)) ++ [x])) (hd : (d' = P 7 1 ∧ 0 < nT S) ∨ d' ∉ wL w) (K : Kp (fun u => u = P 6 1 ∨ (0 < nT S ∧ u = P 7 1)) w w')
    (hQ : ∀ w'' P', RC e0 (itemS S b l) w'' q P' LE LW → FrC w w'' → bw_is w'' x 2 → wI w'' x 0 = nI (nT S + 1) → Q w'') : wp_Bt_takeOn e0 mi (P 0 b) (some x) w' Q := by
  have hb8 := hS.1.1
  have R1 : RC e0 S w q (P1x P 1 (nT S + 1) x) LE LW := RC_ext R hS (fun b _ => by rw [P1x_o P 1 _ x (by decide)]) (fun i _ h2 => P1x_ne P 1 _ x (by omega)) (fun k _ => by rw [P1x_o P 1 _ x (by decide)]) (fun s _ => by rw [P1x_o P 1 _ x (by decide)]) (P1x_o P 1 _ x (by decide)) (P1x_o P 1 _ x (by decide))
  have P6 : P1x P 1 (nT S + 1) x 6 = P 6 := P1x_o P 1 _ x (by decide)
  have P7 : P1x P 1 (nT S + 1) x 7 = P 7 := P1x_o P 1 _ x (by decide)
  have P0 : P1x P 1 (nT S + 1) x 0 = P 0 := P1x_o P 1 _ x (by decide)
  have gk := R.2.1.1 1 (by decide)
  have kN : ∀ ci, ci ≠ 7 → ci ≠ 100 → ∀ a, bw_is w a ci → ¬ (a = P 6 1 ∨ (0 < nT S ∧ a = P 7 1)) := fun ci c7' c100 a ha u => by
    rcases u with u | ⟨u1, u2⟩
    · exact absurd u (is_ne ha gk.1 c7')
    · exact absurd u2 (is_ne ha (gk.2.2.2.2.2.2 u1).2.1 c100)
  have hxX := kN 2 (by decide) (by decide) x i0
  have F1 : FrC w w' := K.frC (fun a ha hu => by
    rcases hu with u | ⟨u1, u2⟩
    · rw [u, gk.1.2]; unfold kM; omega
    · rw [u2, (gk.2.2.2.2.2.2 u1).2.1.2]; unfold kM; omega)
  obtain ⟨r1, r2, r3, r4, r5, r6, r7, r8⟩ := R1
  have e1 := c1_kp r1 K (kN 5 (by decide) (by decide))
  have e3 := c3_kp r3 K (kN 0 (by decide) (by decide))
  have e4 := c4_kp r4 K (kN 4 (by decide) (by decide))
  have e5 := c5_kp r5 K (kN 2 (by decide) (by decide))
  have e6 := c6_kp r6 r5 hS K (kN 2 (by decide) (by decide))
  have e7 := c7_kp r7 K (kN 3 (by decide) (by decide))
  have e8 := c8_kp r8 K (kN 1 (by decide) (by decide))
  have em : ∀ k, k ≠ 16 ∧ k ≠ 13 ∧ k ≠ 20 → mm (item1 S l) k = mm S k := fun k hk => mm_item1 S l hk
  have c2n : c2 e0 (item1 S l) w' (Pn (P1x P 1 (nT S + 1) x) 1 d') LE LW := c2_add (S' := item1 S l) (LE' := LE) (LW' := LW) r2 (k := 1) (by decide) (by rw [P6]; exact hK) (by rw [P7]; exact hd) (by rw [P6, P7]; exact K) (fun j hj hjk => by
    match j, hj, hjk with
    | 0, _, _ => rfl
    | 1, _, h => exact absurd rfl h
    | 2, _, _ => rfl
    | 3, _, _ => rfl
    | 4, _, _ => rfl
    | 5, _, _ => rfl) rfl (fun j hj hjk => by
    match j, hj, hjk with
    | 0, _, _ => rfl
    | 1, _, h => exact absurd rfl h
    | 2, _, _ => rfl
    | 3, _, _ => rfl
    | 4, _, _ => rfl
    | 5, _, _ => rfl) (by
    show (List.range (nT S + 1)).map (fun i => P1x P 1 (nT S + 1) x 1 (i + 1)) = _
    rw [List.range_succ, List.map_append]
    congr 1
    · exact List.map_congr_left (fun i hi => P1x_ne P 1 _ x (by have := List.mem_range.mp hi; omega))
    · show [P1x P 1 (nT S + 1) x 1 (nT S + 1)] = [x]
      rw [P1x_at])
  have c3n : c3 (item1 S l) w' (Pn (P1x P 1 (nT S + 1) x) 1 d') := P_eq_c3 (by unfold c3 at *; rw [em 4 (by decide), em 5 (by decide), em 6 (by decide)]; exact e3)
  have c5n : c5x (item1 S l) w' (Pn (P1x P 1 (nT S + 1) x) 1 d') (nT S + 1) := by
    have hP1 : Pn (P1x P 1 (nT S + 1) x) 1 d' 1 = P1x P 1 (nT S + 1) x 1 := Pn_o _ _ _ (by decide)
    have hP0 : Pn (P1x P 1 (nT S + 1) x) 1 d' 0 = P1x P 1 (nT S + 1) x 0 := Pn_o _ _ _ (by decide)
    unfold c5x
    rw [hP1, hP0]
    refine ⟨fun j j1 j2 => ?_, fun a j a1 a2 j1 j2 hu => ?_⟩
    · replace j2 : j ≤ nT S + 1 := j2
      rw [mm16_item1, mm13_item1, mm20_item1, em 14 (by decide), em 15 (by decide), em 17 (by decide), em 18 (by decide), em 19 (by decide)]
      by_cases hj : j = nT S + 1
      · subst hj
        rw [if_pos rfl, if_pos rfl, if_pos rfl, P1x_at, K.I i0.1 hxX]
        exact ⟨K.is i0, i1, i2', i3, i4, fun u => absurd rfl u⟩
      · rw [if_neg hj, if_neg hj, if_neg hj]
        obtain ⟨q0, q1, q2, q3, q4, q5, q6⟩ := e5.1 j j1 (by omega)
        exact ⟨q0, q1, q2, q3, q4, fun _ => ⟨q5, q6⟩⟩
    · replace a2 : a ≤ nT S + 1 := a2
      replace j2 : j ≤ nT S + 1 := j2
      by_cases ha : a = nT S + 1
      · by_cases hj : j = nT S + 1
        · omega
        · rw [ha, P1x_at, P1x_ne P 1 _ x hj] at hu
          exact absurd hu.symm (hx j j1 (by omega))
      · by_cases hj : j = nT S + 1
        · rw [hj, P1x_at, P1x_ne P 1 _ x ha] at hu
          exact absurd hu (hx a a1 (by omega))
        · exact e5.2 a j a1 (by omega) j1 (by omega) hu
  have eP0 : P 0 b = Pn (P1x P 1 (nT S + 1) x) 1 d' 0 b := by rw [Pn_o _ _ _ (show (0 : Nat) ≠ 7 by decide), P0]
  have eP1 : x = Pn (P1x P 1 (nT S + 1) x) 1 d' 1 (nT S + 1) := by rw [Pn_o _ _ _ (show (1 : Nat) ≠ 7 by decide), P1x_at]
  have G := C_take (e0 := e0) (mi := mi) (q := q) (P := Pn (P1x P 1 (nT S + 1) x) 1 d') (S := item1 S l) (w := w') (LE := LE) (LW := LW) (b := b) (i := nT S + 1) (Q := Q) (P_eq_c1 (c1_eq e1 (em 1 (by decide)) (em 2 (by decide)) (em 30 (by decide)))) c2n c3n (P_eq_c4 (c4_eq e4 rfl (em 7 (by decide)) (em 8 (by decide)) (em 9 (by decide)))) c5n (P_eq_c6 e6) (P_eq_c7 (c7_eq e7 rfl rfl (em 22 (by decide)) (em 23 (by decide)) (em 24 (by decide)))) (c8_eq e8 rfl rfl) (fun c j hj => ?_) (hS.2.2.2.1 b) (fun c hc j hj hj2 => hc (ok_row hS hj hj2)) hb hb8 (by omega) (Nat.le_refl _) (fun w'' R'' F'' _ => ?_)
  · rw [← eP0, ← eP1] at G
    exact G
  · have hj' := in_row hS (show j ∈ rr S c from hj)
    exact ⟨hj'.2.1, by show j ≤ nT S + 1; omega, by omega⟩
  · have h5 := R''.2.2.2.2.1.1 (nT S + 1) (by omega) (Nat.le_refl _)
    rw [← eP1] at h5
    exact hQ w'' _ R'' (F1.trans F'') h5.1 h5.2.1
theorem B_item {x1 x2 : Int32} {nc ns : Nat} {Q : Int32 → Wd → Prop} {X : String → Wd → Prop} (R : RC e0 S w q P LE LW) (hS : okS S) (hc : 4 + gC (nT S) (nT S) ≤ nc) (hs : 30 + gS (nT S) (nT S) ≤ ns) (h1 : ¬ (∃ b, b < nB S ∧ x1 = nI b) → X "java/util/NoSuchElementException" w)
    (h2 : (∃ b, b < nB S ∧ x1 = nI b) → ¬ rng x2 1 2000 → X "java/lang/IllegalArgumentException" w) (h3 : (∃ b, b < nB S ∧ x1 = nI b) → rng x2 1 2000 → nT S = 60 → X "java/lang/UnsupportedOperationException" w)
    (h4 : ∀ b, b < nB S → x1 = nI b → rng x2 1 2000 → nT S < 60 → (0 : Int32) < missS S b → Q (-(missS S b)) w)
    (h0 : ∀ b, b < nB S → x1 = nI b → rng x2 1 2000 → nT S < 60 → ¬ (0 : Int32) < missS S b → ∀ w' P', RC e0 (itemS S b x2) w' q P' LE LW → FrC w w' → Q (nI (nT S + 1)) w') : wp_Br_item e0 mi q x1 x2 w nc ns Q X := by
  have hT := hS.1.2.1
  unfold wp_Br_item
  refine ⟨R.1.1, 1, 6, by omega, by omega, C_fb R hS (fun z => ⟨Nat.le_refl _, Nat.le_refl _, h1 z⟩) (fun b hb hx => ⟨1, 6, by omega, by omega, ck_ok (fun z => ⟨Nat.le_refl _, Nat.le_refl _, h2 ⟨b, hb, hx⟩ z⟩) (fun z1 => ⟨R.1.1, C_size R (k := 1) (by decide) ?_⟩)⟩)⟩
  rw [lsx1]
  refine ⟨fun z => ⟨R.1.1, C_missing R hS hb ⟨fun z2 => ⟨by omega, by omega, fun x hx' w40 e40 => ?_⟩, fun z2 => ?_⟩⟩, fun z => ⟨by omega, by omega, h3 ⟨b, hb, hx⟩ z1 ?_⟩⟩
  · have hn60 : nT S < 60 := by
      rcases Nat.lt_or_ge (nT S) 60 with u | u
      · exact u
      · exact absurd z (nI_nlt (b := 60) u (by omega))
    have ix : bw_is w40 x 2 := by rw [e40]; exact bw_is_self _ x 2 0
    have K0 : Kp (fun _ => False) w w40 := by rw [e40]; exact Kp.rfl.new hx'
    have R0 := RC_kp R hS K0 (fun a ci ha u => False.elim u)
    refine ⟨R0.1.1, C_size R0 (k := 1) (by decide) ?_⟩
    rw [lsx1]
    refine ⟨R0.1.1, ix, ?_⟩
    rw [R0.1.2.2.1, nI_1]
    refine C_itInit ix (fun w55 hL K1 f0 f1 f2 f6 => ?_)
    have K2 : Kp (fun _ => False) w w55 := ((K0.mono (fun _ _ u => u.elim)).trans K1).mono (fun a ha u => hx' (u ▸ ha))
    have R2 := RC_kp R hS K2 (fun a ci ha u => False.elim u)
    have ix2 : bw_is w55 x 2 := is_eq hL.1 hL.2 ix
    have hK0 : isK e0 w55 (P 6 1) (P 7 1) (nT S) ((List.range (nT S)).map (fun i => P 1 (i + 1))) := R2.2.1.1 1 (by decide)
    have hlen : ((List.range (nT S)).map (fun i => P 1 (i + 1))).length = nT S := by simp
    refine ⟨R2.1.1, P 6 1, R2.1.2.2.2.2 1 (by decide), hK0.1, gC (nT S) (nT S), gS (nT S) (nT S), by omega, by omega, isK_add hK0 ⟨2, ix2, by decide, by decide⟩ (by omega) (by rw [hlen]; exact Nat.le_refl _) (by rw [hlen]; exact Nat.le_refl _) (fun w' d' hK hd K => ?_)⟩
    rw [hlen, Nat.max_eq_right (by omega)] at hK
    have hb' : bw_is w' (P 0 b) 0 := K.is (R2.2.2.1.1 b hb).1
    refine ⟨P 0 b, rfl, hb', C_newItem R2 hS hb (fun i i1 i2' u => hx' (u ▸ (R.2.2.2.2.1.1 i i1 i2').1.1)) ix2 f0 f1 f2 f6 hK hd K (fun w'' P' R'' F'' g0 g1 => ⟨g0, ?_⟩)⟩
    rw [g1]
    exact h0 b hb hx z1 hn60 ((missC_le S b).mp z2) w'' P' R'' ((K2.frC (fun a ha u => False.elim u)).trans F'')
  · have hn60 : nT S < 60 := by
      rcases Nat.lt_or_ge (nT S) 60 with u | u
      · exact u
      · exact absurd z (nI_nlt (b := 60) u (by omega))
    have hm : (0 : Int32) < missS S b := by
      by_cases h : (0 : Int32) < missS S b
      · exact h
      · exact absurd ((missC_le S b).mpr h) z2
    have := h4 b hb hx z1 hn60 hm
    unfold missC
    rw [if_pos hm]; exact this
  · rcases Nat.lt_or_ge (nT S) 60 with u | u
    · exact absurd (nI_lt (b := 60) u (by omega)) z
    · omega
end CL
end
section
/-! CALLS OF THE CLASS: join -/
def joinS (S : St) (k t : Nat) (sh : Int32) : St := um (um (um S 7 k (nI t)) 8 k sh) 9 k 0
theorem mm_join (S : St) (k t : Nat) (sh : Int32) {j : Nat} (h : j ≠ 7 ∧ j ≠ 8 ∧ j ≠ 9) : mm (joinS S k t sh) j = mm S j := by
  unfold joinS; rw [mm_um_ne _ _ _ h.2.2, mm_um_ne _ _ _ h.2.1, mm_um_ne _ _ _ h.1]
theorem mm7_join (S : St) (k t : Nat) (sh : Int32) (j : Nat) : mm (joinS S k t sh) 7 j = if j = k then nI t else mm S 7 j := by
  unfold joinS
  rw [mm_um_ne _ _ _ (by decide), mm_um_ne _ _ _ (by decide), mm_um]
  by_cases h : j = k
  · rw [if_pos ⟨rfl, h⟩, if_pos h]
  · rw [if_neg (fun z => h z.2), if_neg h]
theorem mm8_join (S : St) (k t : Nat) (sh : Int32) (j : Nat) : mm (joinS S k t sh) 8 j = if j = k then sh else mm S 8 j := by
  unfold joinS
  rw [mm_um_ne _ _ _ (by decide), mm_um]
  by_cases h : j = k
  · rw [if_pos ⟨rfl, h⟩, if_pos h]
  · rw [if_neg (fun z => h z.2), if_neg h, mm_um_ne _ _ _ (by decide)]
theorem mm9_join (S : St) (k t : Nat) (sh : Int32) (j : Nat) : mm (joinS S k t sh) 9 j = if j = k then 0 else mm S 9 j := by
  unfold joinS
  rw [mm_um]
  by_cases h : j = k
  · rw [if_pos ⟨rfl, h⟩, if_pos h]
  · rw [if_neg (fun z => h z.2), if_neg h, mm_um_ne _ _ _ (by decide), mm_um_ne _ _ _ (by decide)]
theorem ok_join {S : St} (h : okS S) {b y t : Nat} (hb : b < nB S) (hy : y < 2) (ht : b < t) (ht2 : t < nB S) (sh : Int32) : okS (joinS S (2 * b + y) t sh) := by
  have e13 := mm_join S (2 * b + y) t sh (j := 13) (by decide)
  have e14 := mm_join S (2 * b + y) t sh (j := 14) (by decide)
  have e17 := mm_join S (2 * b + y) t sh (j := 17) (by decide)
  have e22 := mm_join S (2 * b + y) t sh (j := 22) (by decide)
  obtain ⟨h1, h2, h3, h4, h5, h6, h7, h8, h9, h10⟩ := h
  refine ⟨h1, h2, fun c j hj => ?_, h4, fun j hj1 hj2 => ?_, fun c hc u hu => ?_, ⟨h7.1, fun j hj => ?_⟩, fun s hs => ?_, h9, h10⟩
  · rw [e13, e14, e17]; exact h3 c j hj
  · rw [e13, e14]; exact h5 j hj1 hj2
  · rw [mm7_join]
    by_cases he : 2 * c + u = 2 * b + y
    · rw [if_pos he]
      exact Or.inr ⟨t, by omega, ht2, rfl⟩
    · rw [if_neg he]; exact h6 c hc u hu
  · rw [e13]; exact h7.2 j hj
  · rw [e22]; exact h8 s hs
section CL
variable {e0 mi q : Nat} {P : Nat → Nat → Nat} {S : St} {w : Wd} {LE LW : List (Nat × Ed)}
theorem RC_join {k t : Nat} (R : RC e0 S w q P LE LW) (hS : okS S) (hk : k < 2 * nB S) (ht : t < nB S) (sh : Int32) : RC e0 (joinS S k t sh) (sI (sI (sR w (P 2 k) 0 (some (P 0 t))) (P 2 k) 1 sh) (P 2 k) 2 0) q P LE LW ∧ FrC w (sI (sI (sR w (P 2 k) 0 (some (P 0 t))) (P 2 k) 1 sh) (P 2 k) 2 0) := by
  have hb8 := hS.1.1
  obtain ⟨r1, r2, r3, r4, r5, r6, r7, r8⟩ := R
  have h4k := (r4.1 k hk).1
  have K : Kp (fun x => x = P 2 k) w (sI (sI (sR w (P 2 k) 0 (some (P 0 t))) (P 2 k) 1 sh) (P 2 k) 2 0) := (((Kp.rfl (X := fun x => x = P 2 k)).sR (fun _ => rfl)).sI (fun _ => rfl)).sI (fun _ => rfl)
  have kN : ∀ ci, ci ≠ 4 → ∀ a, bw_is w a ci → ¬ a = P 2 k := fun ci hci a ha => is_ne ha h4k hci
  have em : ∀ j, j ≠ 7 ∧ j ≠ 8 ∧ j ≠ 9 → mm (joinS S k t sh) j = mm S j := fun j hj => mm_join S k t sh hj
  have e3 := c3_kp r3 K (kN 0 (by decide))
  have e5 := c5_kp r5 K (kN 2 (by decide))
  have e6 := c6_kp r6 r5 hS K (kN 2 (by decide))
  refine ⟨⟨c1_eq (c1_kp r1 K (kN 5 (by decide))) (em 1 (by decide)) (em 2 (by decide)) (em 30 (by decide)), c2_eq (c2_kp r2 K (kN 7 (by decide)) (kN 100 (by decide))) (fun _ => rfl) (fun _ => rfl), ?_, ⟨fun j hj => ?_, r4.2⟩, ?_, e6, c7_eq (c7_kp r7 K (kN 3 (by decide))) rfl rfl (em 22 (by decide)) (em 23 (by decide)) (em 24 (by decide)), c8_eq (c8_kp r8 K (kN 1 (by decide))) rfl rfl⟩, K.frC (fun a ha z => by rw [z, h4k.2]; unfold kM; omega)⟩
  · unfold c3 at *
    rw [em 4 (by decide), em 5 (by decide), em 6 (by decide)]; exact e3
  · replace hj : j < 2 * nB S := hj
    rw [mm7_join, mm8_join, mm9_join]
    by_cases hjk : j = k
    · subst hjk
      rw [if_pos rfl, if_pos rfl, if_pos rfl]
      refine ⟨h4k, ?_, fun z => absurd z (nI_nm (by omega)), fun c hc z => ?_, fun _ => ?_⟩
      · rw [pI_I, if_pos ⟨rfl, rfl⟩]
      · replace hc : c < nB S := hc
        rw [pR_I, pR_I, pR_R, if_pos ⟨rfl, rfl⟩, (nI_eq (by omega) (by omega)).mp z]
      · rw [pI_I, if_neg (fun y => by simp at y), pI_I, if_pos ⟨rfl, rfl⟩]
    · have hne : P 2 j ≠ P 2 k := fun z => hjk (r4.2 j k hj hk z)
      obtain ⟨q0, q1, q2, q3, q4⟩ := r4.1 j hj
      rw [if_neg hjk, if_neg hjk, if_neg hjk]
      have eI : ∀ s, wI (sI (sI (sR w (P 2 k) 0 (some (P 0 t))) (P 2 k) 1 sh) (P 2 k) 2 0) (P 2 j) s = wI w (P 2 j) s := fun s => by rw [pI_I, if_neg (fun y => hne y.1), pI_I, if_neg (fun y => hne y.1), pI_R]
      have eR : wR (sI (sI (sR w (P 2 k) 0 (some (P 0 t))) (P 2 k) 1 sh) (P 2 k) 2 0) (P 2 j) 0 = wR w (P 2 j) 0 := by rw [pR_I, pR_I, pR_R, if_neg (fun y => hne y.1)]
      rw [eI, eI, eR]
      exact ⟨q0, q1, q2, q3, q4⟩
  · unfold c5 at *
    rw [em 13 (by decide), em 14 (by decide), em 15 (by decide), em 16 (by decide), em 17 (by decide), em 18 (by decide), em 19 (by decide), em 20 (by decide)]; exact e5
theorem way_is (R : RC e0 S w q P LE LW) (hS : okS S) {b y t : Nat} (hb : b < nB S) (hy : y < 2) (ht : t < nB S) : (wR w (P 2 (2 * b + y)) 0 = some (P 0 t)) ↔ mm S 7 (2 * b + y) = nI t := by
  have hb8 := hS.1.1
  have h4 := R.2.2.2.1.1 (2 * b + y) (by omega)
  rcases hS.2.2.2.2.2.1 b hb y hy with h | ⟨c, c1', c2', c3'⟩
  · rw [h4.2.2.1 h, h]
    exact ⟨fun z => (by cases z), fun z => absurd z.symm (nI_nm (by omega))⟩
  · rw [h4.2.2.2.1 c c2' c3', c3']
    constructor
    · intro z; rw [R.2.2.1.2 c t c2' ht (Option.some.inj z)]
    · intro z; rw [(nI_eq (by omega) (by omega)).mp z]
theorem C_ways {t : Nat} {Q : Int32 → Wd → Prop} (R : RC e0 S w q P LE LW) (hS : okS S) (ht : t < nB S) (hQ : Q (nI (wayN S t (nB S))) w) : ∀ (n k : Nat), k + n = nB S → wb_Br_waysTo_4 e0 mi Q (n + 1) q (some (P 0 t)) (nI (wayN S t k)) (nI k) w := by
  have hb8 := hS.1.1
  intro n
  induction n with
  | zero =>
    intro k hk
    have : k = nB S := by omega
    subst this
    unfold wb_Br_waysTo_4
    refine ⟨R.1.1, C_size R (k := 0) (by decide) ?_⟩
    rw [lsx0]
    exact ⟨fun _ => hQ, fun z => absurd (nI_le (Nat.le_refl _) (by omega)) z⟩
  | succ n ih =>
    intro k hk
    have hkB : k < nB S := by omega
    have h3 := R.2.2.1.1 k hkB
    have w0' : wR w (P 2 (2 * k)) 0 = some (P 0 t) ↔ mm S 7 (2 * k) = nI t := way_is R hS hkB (y := 0) (by decide) ht
    have w1' := way_is R hS hkB (y := 1) (by decide) ht
    have T68 : ∀ (v : Nat) (z1 : Int32) (c : Nat), z1 = nI c → v + c = wayN S t (k + 1) → ∀ (r4 : Option Nat) (i0 : Int32), wb_Br_waysTo_68 e0 mi (wb_Br_waysTo_4 e0 mi Q (n + 1)) Q q (some (P 0 t)) i0 (nI k) r4 (nI v) z1 w := fun v z1 c hz hv r4 i0 => by
      unfold wb_Br_waysTo_68
      intro i1 e1 i2 e2
      rw [e1, e2, hz, nI_add, nI_1, hv]
      exact ih (k + 1) (by omega)
    have T47 : ∀ (z1 : Int32) (c : Nat), z1 = nI c → c = (if mm S 7 (2 * k) = nI t then 1 else 0) → wb_Br_waysTo_47 e0 mi (wb_Br_waysTo_4 e0 mi Q (n + 1)) Q q (some (P 0 t)) (nI (wayN S t k)) (nI k) (some (P 0 k)) (nI (wayN S t k)) z1 w := fun z1 c hz hc => by
      unfold wb_Br_waysTo_47
      intro i1 e1
      rw [hz, nI_add] at e1
      subst e1
      refine ⟨P 0 k, rfl, h3.1, C_wayN R hkB (y := 1) (by decide) rfl ⟨_, rfl, (R.2.2.2.1.1 (2 * k + 1) (by omega)).1, fun z => ?_, fun z => ?_⟩⟩
      · refine T68 (wayN S t k + c) 0 0 rfl ?_ _ _
        show _ = wayN S t k + (if mm S 7 (2 * k) = nI t then 1 else 0) + (if mm S 7 (2 * k + 1) = nI t then 1 else 0)
        rw [if_neg (fun u => z (w1'.mpr u)), ← hc]
      · refine T68 (wayN S t k + c) 1 1 rfl ?_ _ _
        show _ = wayN S t k + (if mm S 7 (2 * k) = nI t then 1 else 0) + (if mm S 7 (2 * k + 1) = nI t then 1 else 0)
        rw [if_pos (w1'.mp z), ← hc]
    unfold wb_Br_waysTo_4
    refine ⟨R.1.1, C_size R (k := 0) (by decide) ?_⟩
    rw [lsx0]
    refine ⟨fun z => absurd z (nI_ge hkB (by omega)), fun _ => ⟨R.1.1, P 6 0, R.1.2.2.2.2 0 (by decide), (R.2.1.1 0 (by decide)).1, C_beltAt R hkB ⟨fun a ha => (by cases ha; exact h3.1), P 0 k, rfl, h3.1, C_wayN R hkB (y := 0) (by decide) rfl ⟨_, rfl, (R.2.2.2.1.1 (2 * k + 0) (by omega)).1, fun z => ?_, fun z => ?_⟩⟩⟩⟩
    · exact T47 0 0 rfl (by rw [if_neg (fun u => z (w0'.mpr u))])
    · exact T47 1 1 rfl (by rw [if_pos (w0'.mp z)])
theorem B_join {x1 x2 x3 x4 : Int32} {nc ns : Nat} {Q : Int32 → Wd → Prop} {X : String → Wd → Prop} (R : RC e0 S w q P LE LW) (hS : okS S) (hc : 5 ≤ nc) (hs : 30 ≤ ns) (h1 : ¬ ((∃ b, b < nB S ∧ x1 = nI b) ∧ (∃ b, b < nB S ∧ x3 = nI b)) → X "java/util/NoSuchElementException" w)
    (h2 : ∀ b t, b < nB S → x1 = nI b → t < nB S → x3 = nI t → ¬ (rng x2 0 1 ∧ rng x4 1 9 ∧ b < t) → X "java/lang/IllegalArgumentException" w)
    (h0 : ∀ b t y, b < nB S → x1 = nI b → t < nB S → x3 = nI t → y < 2 → x2 = nI y → rng x2 0 1 → rng x4 1 9 → b < t → ∀ w', RC e0 (joinS S (2 * b + y) t x4) w' q P LE LW → FrC w w' → Q (nI (wayN (joinS S (2 * b + y) t x4) t (nB S))) w') : wp_Br_join e0 mi q x1 x2 x3 x4 w nc ns Q X := by
  have hb8 := hS.1.1
  unfold wp_Br_join
  refine ⟨R.1.1, 1, 6, by omega, by omega, C_fb R hS (fun z => ⟨Nat.le_refl _, Nat.le_refl _, h1 (fun y => z y.1)⟩) (fun b hb hx => ⟨R.1.1, 1, 6, by omega, by omega, C_fb R hS (fun z => ⟨Nat.le_refl _, Nat.le_refl _, h1 (fun y => z y.2)⟩) (fun t ht hx3 => ⟨1, 6, by omega, by omega, ck_ok (fun z => ⟨Nat.le_refl _, Nat.le_refl _, h2 b t hb hx ht hx3 (fun y => z y.1)⟩) (fun z1 => ⟨1, 6, by omega, by omega, ck_ok (fun z => ⟨Nat.le_refl _, Nat.le_refl _, h2 b t hb hx ht hx3 (fun y => z y.2.1)⟩) (fun z2 => ⟨fun z3 => ?_, fun z3 => ⟨by omega, by omega, h2 b t hb hx ht hx3 (fun y => z3 (by rw [hx, hx3]; exact nI_lt y.2.2 (by omega)))⟩⟩)⟩)⟩)⟩)⟩
  have hbt : b < t := by
    rcases Nat.lt_or_ge b t with u | u
    · exact u
    · rw [hx, hx3] at z3; exact absurd z3 (nI_nlt u (by omega))
  obtain ⟨y, hy, hxy⟩ := nI_of2 (M := 1) (n := 1) (by decide) z1.1 (Int32.not_lt.mp z1.2)
  have hy2 : y < 2 := by omega
  obtain ⟨R', F'⟩ := RC_join R hS (k := 2 * b + y) (by omega) ht x4
  have ok' := ok_join hS hb hy2 hbt ht x4
  unfold wp_Wy_leadTo wp_Br_waysTo
  refine ⟨P 0 b, rfl, (R.2.2.1.1 b hb).1, C_wayN R hb hy2 hxy ⟨_, rfl, (R.2.2.2.1.1 (2 * b + y) (by omega)).1, (R.2.2.2.1.1 (2 * b + y) (by omega)).1, R'.1.1, nB S + 1, ?_⟩⟩
  exact C_ways R' ok' ht (h0 b t y hb hx ht hx3 hy2 hxy z1 z2 hbt _ R' F') (nB S) 0 (by show 0 + nB S = nB S; omega)
end CL
end
