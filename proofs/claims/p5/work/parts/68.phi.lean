/-! HOW MANY EDGES THERE CAN BE: what is told, what waits, and what each item can still bring -/
def bn (S : St) (i : Nat) : Nat := (mm S 14 i).toNatClampNeg
def sbn (S : St) (s : Nat) : Nat := (mm S 22 s).toNatClampNeg
def ahS (S : St) (i s : Nat) : Nat := if nS S ≤ s ∨ bn S i < sbn S s ∨ (bn S i = sbn S s ∧ mm S 15 i < mm S 23 s) then 1 else 0
def ah4 (S : St) (i : Nat) : Nat := ahS S i 0 + ahS S i 1 + ahS S i 2 + ahS S i 3
def potI (S : St) (i : Nat) : Nat := if nT S < i then 12 else if mm S 13 i = 0 then ah4 S i + (8 - bn S i) else 0
def sm (f : Nat → Nat) : Nat → Nat
  | 0 => 0
  | n + 1 => sm f n + f (n + 1)
def Phi (S : St) : Nat := (eds S).length + (wts S).length + sm (potI S) 60
theorem sm_le {f g : Nat → Nat} : ∀ n, (∀ i, 1 ≤ i → i ≤ n → f i ≤ g i) → sm f n ≤ sm g n
  | 0, _ => Nat.le_refl _
  | n + 1, h => by
    have h1 := sm_le n (fun i a b => h i a (by omega))
    have h2 := h (n + 1) (by omega) (Nat.le_refl _)
    show sm f n + f (n + 1) ≤ sm g n + g (n + 1)
    omega
theorem sm_one {f g : Nat → Nat} {j : Nat} : ∀ n, (∀ i, i ≠ j → 1 ≤ i → i ≤ n → f i ≤ g i) → 1 ≤ j → j ≤ n → sm f n + g j ≤ sm g n + f j
  | 0, _, h1, h2 => by omega
  | n + 1, h, h1, h2 => by
    show sm f n + f (n + 1) + g j ≤ sm g n + g (n + 1) + f j
    by_cases hj : j = n + 1
    · have := sm_le n (f := f) (g := g) (fun i a b => h i (by omega) a (by omega))
      rw [hj]; omega
    · have := sm_one (f := f) (g := g) (j := j) n (fun i a b c => h i a b (by omega)) h1 (by omega)
      have := h (n + 1) (Ne.symm hj) (by omega) (Nat.le_refl _)
      omega
theorem phi_same {S S' : St} (hl : (eds S').length + (wts S').length ≤ (eds S).length + (wts S).length) (hp : ∀ i, 1 ≤ i → i ≤ 60 → potI S' i ≤ potI S i) : Phi S' ≤ Phi S := by
  have := sm_le 60 hp
  unfold Phi; omega
theorem phi_one {S S' : St} {j : Nat} (j1 : 1 ≤ j) (j2 : j ≤ 60) (hp : ∀ i, i ≠ j → 1 ≤ i → i ≤ 60 → potI S' i ≤ potI S i) (hl : (eds S').length + (wts S').length + potI S' j ≤ (eds S).length + (wts S).length + potI S j) : Phi S' ≤ Phi S := by
  have := sm_one 60 hp j1 j2
  unfold Phi; omega
theorem pot_eq {S S' : St} (hT : nT S' = nT S) (hs : nS S' = nS S) (e13 : mm S' 13 = mm S 13) (e14 : mm S' 14 = mm S 14) (e15 : mm S' 15 = mm S 15) (e22 : mm S' 22 = mm S 22) (e23 : mm S' 23 = mm S 23) (i : Nat) : potI S' i = potI S i := by
  unfold potI ah4 ahS bn sbn
  rw [hT, hs, e13, e14, e15, e22, e23]
theorem ah_le (S : St) (i s : Nat) : ahS S i s ≤ 1 := by
  unfold ahS
  by_cases h : nS S ≤ s ∨ bn S i < sbn S s ∨ (bn S i = sbn S s ∧ mm S 15 i < mm S 23 s)
  · rw [if_pos h]; exact Nat.le_refl _
  · rw [if_neg h]; omega
theorem ah4_le (S : St) (i : Nat) : ah4 S i ≤ 4 := by
  have h0 := ah_le S i 0
  have h1 := ah_le S i 1
  have h2 := ah_le S i 2
  have h3 := ah_le S i 3
  unfold ah4; omega
theorem phi_tick (S : St) : Phi (tickS S) ≤ Phi S := phi_same (Nat.le_refl _) (fun i _ _ => Nat.le_of_eq (pot_eq rfl rfl (mm_um_ne S 0 _ (by decide)) (mm_um_ne S 0 _ (by decide)) (mm_um_ne S 0 _ (by decide)) (mm_um_ne S 0 _ (by decide)) (mm_um_ne S 0 _ (by decide)) i))
theorem phi_read (S : St) : Phi (readS S) ≤ Phi S := by
  refine phi_same ?_ (fun i _ _ => Nat.le_of_eq (pot_eq rfl rfl rfl rfl rfl rfl rfl i))
  rw [eds_read, wts_read, List.length_append]
  have := part_len (mm S 1 0) (wts S)
  omega
theorem phi_out {S : St} (hS : okS S) {b : Nat} (hb : b < nB S) : Phi (outS S b) ≤ Phi S := by
  unfold outS
  cases ha : atEndS S b with
  | none => exact Nat.le_refl _
  | some i => cases hg : goesS S b i with
    | some k => simp only [hg]; exact Nat.le_refl _
    | none =>
      simp only [hg]
      obtain ⟨t, ht, -⟩ := atEnd_some ha
      have hi := in_row hS (show i ∈ rr S b by rw [ht]; exact List.mem_cons_self)
      obtain ⟨-, i1, i2', i3, i4, -, b8, -⟩ := hi
      have hT := hS.1.2.1
      have em : ∀ k, k ≠ 13 → k ≠ 30 → mm (tellS (um (ug (um (ur S b ((rr S b).eraseIdx 0)) 13 i 1) (gos S ++ [i])) 30 0 (mm S 30 0 + (mm S 1 0 - mm S 20 i))) (mm S 1 0, 1, i, b)) k = mm S k := fun k h1 h2 => by
        show mm (um (ug (um (ur S b ((rr S b).eraseIdx 0)) 13 i 1) (gos S ++ [i])) 30 0 (mm S 30 0 + (mm S 1 0 - mm S 20 i))) k = mm S k
        rw [mm_um_ne _ _ _ h2, mm_ug, mm_um_ne _ _ _ h1, mm_ur]
      have e13 : ∀ a, mm (tellS (um (ug (um (ur S b ((rr S b).eraseIdx 0)) 13 i 1) (gos S ++ [i])) 30 0 (mm S 30 0 + (mm S 1 0 - mm S 20 i))) (mm S 1 0, 1, i, b)) 13 a = if a = i then 1 else mm S 13 a := fun a => by
        show mm (um (ug (um (ur S b ((rr S b).eraseIdx 0)) 13 i 1) (gos S ++ [i])) 30 0 (mm S 30 0 + (mm S 1 0 - mm S 20 i))) 13 a = _
        rw [mm_um_ne _ _ _ (by decide), mm_ug, mm_um]
        by_cases h : a = i
        · rw [if_pos ⟨rfl, h⟩, if_pos h]
        · rw [if_neg (fun z => h z.2), if_neg h, mm_ur]
      refine phi_one (j := i) i1 (by omega) (fun a hai a1 a2 => ?_) ?_
      · unfold potI ah4 ahS bn sbn
        rw [e13, if_neg hai, em 14 (by decide) (by decide), em 15 (by decide) (by decide), em 22 (by decide) (by decide), em 23 (by decide) (by decide)]
        exact Nat.le_refl _
      · have p1 : potI (tellS (um (ug (um (ur S b ((rr S b).eraseIdx 0)) 13 i 1) (gos S ++ [i])) 30 0 (mm S 30 0 + (mm S 1 0 - mm S 20 i))) (mm S 1 0, 1, i, b)) i = 0 := by
          unfold potI
          have eT : nT (tellS (um (ug (um (ur S b ((rr S b).eraseIdx 0)) 13 i 1) (gos S ++ [i])) 30 0 (mm S 30 0 + (mm S 1 0 - mm S 20 i))) (mm S 1 0, 1, i, b)) = nT S := rfl
          rw [e13, if_pos rfl, eT, if_neg (show ¬ nT S < i by omega), if_neg (by decide)]
        have p0 : 1 ≤ potI S i := by
          unfold potI bn
          rw [if_neg (show ¬ nT S < i by omega), if_pos i3, i4, nI_clamp (by omega)]
          omega
        have l1 : (eds (tellS (um (ug (um (ur S b ((rr S b).eraseIdx 0)) 13 i 1) (gos S ++ [i])) 30 0 (mm S 30 0 + (mm S 1 0 - mm S 20 i))) (mm S 1 0, 1, i, b))).length = (eds S).length + 1 := by
          unfold tellS; rw [eds_ue, eds_um, eds_ug, eds_um, eds_ur]; simp
        have l2 : wts (tellS (um (ug (um (ur S b ((rr S b).eraseIdx 0)) 13 i 1) (gos S ++ [i])) 30 0 (mm S 30 0 + (mm S 1 0 - mm S 20 i))) (mm S 1 0, 1, i, b)) = wts S := rfl
        rw [p1, l1, l2]; omega
theorem phi_pass {S : St} (hS : okS S) {b : Nat} (hb : b < nB S) : Phi (passS S b) ≤ Phi S := by
  unfold passS
  by_cases hz : 0 < missS S b
  · rw [if_pos hz]; exact Nat.le_refl _
  · rw [if_neg hz]
    cases hg : giverS S b b with
    | none => exact Nat.le_refl _
    | some k =>
      obtain ⟨x, hx, hk⟩ := giver_some b k hg
      obtain ⟨j, t, ht, -, -, ⟨y, hy, hky⟩, -, -⟩ := cand_some hS hk
      have hk2 : k / 2 = x := by omega
      simp only [hk2, ht]
      obtain ⟨-, j1, j2, j3, j4, -, x8, -⟩ := in_row hS (show j ∈ rr S x by rw [ht]; exact List.mem_cons_self)
      have hT := hS.1.2.1
      have hb8 := hS.1.1
      have em : ∀ c, c ≠ 14 ∧ c ≠ 15 ∧ c ≠ 17 ∧ c ≠ 18 ∧ c ≠ 19 → c ≠ 9 → mm (tellS (comeS (um (ur S x t) 9 k (mm S 9 k + 1)) j b) (mm S 1 0, 2, j, b)) c = mm S c := fun c h1 h2 => by
        show mm (comeS (um (ur S x t) 9 k (mm S 9 k + 1)) j b) c = mm S c
        rw [mm_come _ _ _ h1, mm_um_ne _ _ _ h2, mm_ur]
      have e14 : ∀ a, mm (tellS (comeS (um (ur S x t) 9 k (mm S 9 k + 1)) j b) (mm S 1 0, 2, j, b)) 14 a = if a = j then nI b else mm S 14 a := fun a => by
        show mm (comeS (um (ur S x t) 9 k (mm S 9 k + 1)) j b) 14 a = _
        rw [mm14_come, mm_um_ne _ _ _ (by decide), mm_ur]
      have e15 : ∀ a, mm (tellS (comeS (um (ur S x t) 9 k (mm S 9 k + 1)) j b) (mm S 1 0, 2, j, b)) 15 a = if a = j then 0 else mm S 15 a := fun a => by
        show mm (comeS (um (ur S x t) 9 k (mm S 9 k + 1)) j b) 15 a = _
        rw [mm15_come, mm_um_ne _ _ _ (by decide), mm_ur]
      refine phi_one (j := j) j1 (by omega) (fun a haj a1 a2 => ?_) ?_
      · unfold potI ah4 ahS bn sbn
        rw [e14, e15, if_neg haj, if_neg haj, em 13 (by decide) (by decide), em 22 (by decide) (by decide), em 23 (by decide) (by decide)]
        exact Nat.le_refl _
      · have bj : bn S j = x := by unfold bn; rw [j4]; exact nI_clamp (by omega)
        have bj' : bn (tellS (comeS (um (ur S x t) 9 k (mm S 9 k + 1)) j b) (mm S 1 0, 2, j, b)) j = b := by unfold bn; rw [e14, if_pos rfl]; exact nI_clamp (by omega)
        have ah : ∀ s, ahS (tellS (comeS (um (ur S x t) 9 k (mm S 9 k + 1)) j b) (mm S 1 0, 2, j, b)) j s ≤ ahS S j s := fun s => by
          unfold ahS
          have es : sbn (tellS (comeS (um (ur S x t) 9 k (mm S 9 k + 1)) j b) (mm S 1 0, 2, j, b)) s = sbn S s := by unfold sbn; rw [em 22 (by decide) (by decide)]
          have en : nS (tellS (comeS (um (ur S x t) 9 k (mm S 9 k + 1)) j b) (mm S 1 0, 2, j, b)) = nS S := rfl
          rw [bj', bj, es, en]
          by_cases h : nS S ≤ s ∨ x < sbn S s ∨ (x = sbn S s ∧ mm S 15 j < mm S 23 s)
          · rw [if_pos h]
            by_cases h2 : nS S ≤ s ∨ b < sbn S s ∨ b = sbn S s ∧ mm (tellS (comeS (um (ur S x t) 9 k (mm S 9 k + 1)) j b) (mm S 1 0, 2, j, b)) 15 j < mm (tellS (comeS (um (ur S x t) 9 k (mm S 9 k + 1)) j b) (mm S 1 0, 2, j, b)) 23 s
            · rw [if_pos h2]; exact Nat.le_refl _
            · rw [if_neg h2]; omega
          · rw [if_neg h, if_neg (fun h2 => h (by
              rcases h2 with z | z | z
              · exact Or.inl z
              · exact Or.inr (Or.inl (by omega))
              · exact Or.inr (Or.inl (by omega))))]
            exact Nat.le_refl _
        have p1 : potI (tellS (comeS (um (ur S x t) 9 k (mm S 9 k + 1)) j b) (mm S 1 0, 2, j, b)) j + 1 ≤ potI S j := by
          unfold potI
          have eT : nT (tellS (comeS (um (ur S x t) 9 k (mm S 9 k + 1)) j b) (mm S 1 0, 2, j, b)) = nT S := rfl
          rw [eT, bj', bj, em 13 (by decide) (by decide), if_pos j3, if_pos j3, if_neg (show ¬ nT S < j by omega), if_neg (show ¬ nT S < j by omega)]
          have a0 := ah 0
          have a1 := ah 1
          have a2 := ah 2
          have a3 := ah 3
          unfold ah4
          omega
        have l1 : (eds (tellS (comeS (um (ur S x t) 9 k (mm S 9 k + 1)) j b) (mm S 1 0, 2, j, b))).length = (eds S).length + 1 := by
          unfold tellS; rw [eds_ue, eds_come, eds_um, eds_ur]; simp
        have l2 : wts (tellS (comeS (um (ur S x t) 9 k (mm S 9 k + 1)) j b) (mm S 1 0, 2, j, b)) = wts S := rfl
        rw [l1, l2]; omega
