/-! HOW MANY EDGES THERE CAN BE: every call; a slip may bring four more, no other call any -/
theorem phi_um {S : St} {k : Nat} (hk : k ≠ 13 ∧ k ≠ 14 ∧ k ≠ 15 ∧ k ≠ 22 ∧ k ≠ 23) (i : Nat) (v : Int32) : Phi (um S k i v) ≤ Phi S :=
  phi_same (by rw [eds_um, wts_um]; exact Nat.le_refl _) (fun j _ _ => Nat.le_of_eq (pot_eq (nT_um S k i v) (nS_um S k i v) (mm_um_ne S i v (Ne.symm hk.1)) (mm_um_ne S i v (Ne.symm hk.2.1)) (mm_um_ne S i v (Ne.symm hk.2.2.1)) (mm_um_ne S i v (Ne.symm hk.2.2.2.1)) (mm_um_ne S i v (Ne.symm hk.2.2.2.2)) j))
theorem phi_belt (S : St) (l v : Int32) : Phi (beltS S l v) ≤ Phi S :=
  phi_same (Nat.le_refl _) (fun j _ _ => Nat.le_of_eq (pot_eq rfl rfl (mm_belt S l v (by decide)) (mm_belt S l v (by decide)) (mm_belt S l v (by decide)) (mm_belt S l v (by decide)) (mm_belt S l v (by decide)) j))
theorem phi_join (S : St) (k t : Nat) (sh : Int32) : Phi (joinS S k t sh) ≤ Phi S := by
  unfold joinS
  exact Nat.le_trans (phi_um (by decide) _ _) (Nat.le_trans (phi_um (by decide) _ _) (phi_um (by decide) _ _))
theorem phi_slip {S : St} {i : Nat} (i1 : 1 ≤ i) (i2' : i ≤ 60) (v : Int32) : Phi (um S 15 i v) ≤ Phi S + 4 := by
  have h := sm_one (f := potI (um S 15 i v)) (g := potI S) (j := i) 60 (fun j hj _ _ => by
    have e15 : mm (um S 15 i v) 15 j = mm S 15 j := by rw [mm_um, if_neg (fun z => hj z.2)]
    unfold potI ah4 ahS bn sbn
    rw [nT_um, nS_um, mm_um_ne S i v (show (13 : Nat) ≠ 15 by decide), mm_um_ne S i v (show (14 : Nat) ≠ 15 by decide), mm_um_ne S i v (show (22 : Nat) ≠ 15 by decide), mm_um_ne S i v (show (23 : Nat) ≠ 15 by decide), e15]
    exact Nat.le_refl _) i1 i2'
  have hi : potI (um S 15 i v) i ≤ potI S i + 4 := by
    have a := ah4_le (um S 15 i v) i
    unfold potI bn
    rw [nT_um, mm_um_ne S i v (show (13 : Nat) ≠ 15 by decide), mm_um_ne S i v (show (14 : Nat) ≠ 15 by decide)]
    by_cases h1 : nT S < i
    · rw [if_pos h1, if_pos h1]; omega
    · rw [if_neg h1, if_neg h1]
      by_cases h2 : mm S 13 i = 0
      · rw [if_pos h2, if_pos h2]; omega
      · rw [if_neg h2, if_neg h2]; omega
  unfold Phi
  rw [eds_um, wts_um]
  omega
theorem phi_leave {S : St} {b i : Nat} (l : List Nat) {v : Int32} (hv : ¬ v = 0) (i1 : 1 ≤ i) (i2' : i ≤ nT S) : Phi (um (ur S b l) 13 i v) ≤ Phi S := by
  refine phi_same (by rw [eds_um, wts_um, eds_ur, wts_ur]; exact Nat.le_refl _) (fun j _ _ => ?_)
  by_cases hj : j = i
  · subst hj
    have e13 : mm (um (ur S b l) 13 j v) 13 j = v := by rw [mm_um, if_pos ⟨rfl, rfl⟩]
    have e : potI (um (ur S b l) 13 j v) j = 0 := by
      unfold potI
      rw [nT_um, nT_ur, e13, if_neg (show ¬ nT S < j by omega), if_neg hv]
    rw [e]
    exact Nat.zero_le _
  · have e13 : mm (um (ur S b l) 13 i v) 13 j = mm S 13 j := by rw [mm_um, if_neg (fun z => hj z.2), mm_ur]
    unfold potI ah4 ahS bn sbn
    rw [nT_um, nS_um, mm_um_ne _ i v (show (14 : Nat) ≠ 13 by decide), mm_um_ne _ i v (show (15 : Nat) ≠ 13 by decide), mm_um_ne _ i v (show (22 : Nat) ≠ 13 by decide), mm_um_ne _ i v (show (23 : Nat) ≠ 13 by decide), e13, nT_ur, nS_ur, mm_ur]
    exact Nat.le_refl _
theorem phi_clean {b : Nat} : ∀ (n : Nat) {S : St}, okS S → Phi (cleanN S b n) ≤ Phi S
  | 0, _, _ => Nat.le_refl _
  | n + 1, S, h => by
    unfold cleanN
    cases hr : rr S b with
    | nil => exact Nat.le_refl _
    | cons i t =>
      have hp : (rr S b)[0]? = some i := by rw [hr]; rfl
      have hi := h.2.2.1 b i (List.mem_of_getElem? hp)
      have o := ok_leave h (p := 0) (v := 2) hp (by decide)
      rw [hr] at o
      exact Nat.le_trans (phi_clean n o) (phi_leave _ (by decide) hi.1 hi.2.1)
theorem phi_scan (S : St) (hS : nS S < 4) (x p d : Int32) : Phi (scanS S x p d) ≤ Phi S := by
  have e13 := mm_scan S x p d (k := 13) (by decide)
  have e14 := mm_scan S x p d (k := 14) (by decide)
  have e15 := mm_scan S x p d (k := 15) (by decide)
  have eS : nS (scanS S x p d) = nS S + 1 := rfl
  have eT : nT (scanS S x p d) = nT S := rfl
  have ah : ∀ i s, ahS (scanS S x p d) i s ≤ ahS S i s := fun i s => by
    by_cases hs : nS S ≤ s
    · have := ah_le (scanS S x p d) i s
      have e : ahS S i s = 1 := by unfold ahS; rw [if_pos (Or.inl hs)]
      omega
    · have a := mm22_scan S x p d s
      have a2 := mm23_scan S x p d s
      rw [if_neg (show ¬ s = nS S by omega)] at a a2
      unfold ahS bn sbn
      rw [eS, e14, e15, a, a2]
      by_cases hc : nS S ≤ s ∨ (mm S 14 i).toNatClampNeg < (mm S 22 s).toNatClampNeg ∨ ((mm S 14 i).toNatClampNeg = (mm S 22 s).toNatClampNeg ∧ mm S 15 i < mm S 23 s)
      · rw [if_pos hc]
        split <;> omega
      · rw [if_neg hc, if_neg (fun z => hc (z.imp (fun y => by omega) id))]
        exact Nat.le_refl _
  refine phi_same (Nat.le_refl _) (fun i _ _ => ?_)
  have h0 := ah i 0
  have h1 := ah i 1
  have h2 := ah i 2
  have h3 := ah i 3
  unfold potI ah4 bn
  rw [eT, e13, e14]
  split
  · exact Nat.le_refl _
  · split
    · omega
    · exact Nat.le_refl _
theorem phi_item {S : St} (b : Nat) (l : Int32) : Phi (itemS S b l) ≤ Phi S := by
  have e13 : ∀ a, mm (itemS S b l) 13 a = if a = nT S + 1 then 0 else mm S 13 a := fun a => by unfold itemS; rw [mm_come _ _ _ (by decide), mm13_item1]
  have e14 : ∀ a, mm (itemS S b l) 14 a = if a = nT S + 1 then nI b else mm S 14 a := fun a => by unfold itemS; rw [mm14_come, mm_item1 _ _ (by decide)]
  have e15 : ∀ a, mm (itemS S b l) 15 a = if a = nT S + 1 then 0 else mm S 15 a := fun a => by unfold itemS; rw [mm15_come, mm_item1 _ _ (by decide)]
  have e22 : mm (itemS S b l) 22 = mm S 22 := by unfold itemS; rw [mm_come _ _ _ (by decide), mm_item1 _ _ (by decide)]
  have e23 : mm (itemS S b l) 23 = mm S 23 := by unfold itemS; rw [mm_come _ _ _ (by decide), mm_item1 _ _ (by decide)]
  have eT : nT (itemS S b l) = nT S + 1 := by unfold itemS comeS; rw [nT_ur, nT_um, nT_um, nT_um, nT_um, nT_um]; unfold item1; rw [nT_uT]
  have eN : nS (itemS S b l) = nS S := by unfold itemS comeS; rw [nS_ur, nS_um, nS_um, nS_um, nS_um, nS_um]; unfold item1; rw [nS_uT, nS_um, nS_um, nS_um]
  have ee : eds (itemS S b l) = eds S := by unfold itemS comeS; rw [eds_ur, eds_um, eds_um, eds_um, eds_um, eds_um]; unfold item1; rw [eds_uT, eds_um, eds_um, eds_um]
  have ew : wts (itemS S b l) = wts S := by unfold itemS comeS; rw [wts_ur, wts_um, wts_um, wts_um, wts_um, wts_um]; unfold item1; rw [wts_uT, wts_um, wts_um, wts_um]
  generalize itemS S b l = S' at e13 e14 e15 e22 e23 eT eN ee ew ⊢
  refine phi_same (by rw [ee, ew]; exact Nat.le_refl _) (fun i _ _ => ?_)
  have a4 := ah4_le S' i
  by_cases hi : i = nT S + 1
  · unfold potI
    rw [eT, if_neg (show ¬ nT S + 1 < i by omega), if_pos (show nT S < i by omega)]
    split <;> omega
  · have ea : ah4 S' i = ah4 S i := by
      unfold ah4 ahS bn sbn
      rw [eN, e14, e15, e22, e23, if_neg hi, if_neg hi]
    unfold potI
    rw [ea, eT]
    unfold bn
    rw [e13, e14, if_neg hi, if_neg hi]
    by_cases h1 : nT S < i
    · rw [if_pos (show nT S + 1 < i by omega), if_pos h1]; exact Nat.le_refl _
    · rw [if_neg (show ¬ nT S + 1 < i by omega), if_neg h1]; exact Nat.le_refl _
