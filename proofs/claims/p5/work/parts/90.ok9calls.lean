/-! ok9 (ways of belts that are not there carried nothing) IS KEPT -/
theorem n9_of {S S' : St} (h : ok9 S) (hB : nB S' = nB S) (e : mm S' 9 = mm S 9) : ok9 S' := fun k hk => by
  rw [hB] at hk; rw [e]; exact h k hk
theorem n9_um {S : St} (h : ok9 S) {k : Nat} (hk : k ≠ 9) (i : Nat) (v : Int32) : ok9 (um S k i v) := n9_of h (nB_um S k i v) (mm_um_ne S i v (Ne.symm hk))
theorem n9_belt {S : St} (h : ok9 S) (l v : Int32) : ok9 (beltS S l v) := fun k hk => by
  rw [nB_belt] at hk
  rw [mm_belt S l v (by decide)]
  exact h k (by omega)
theorem n9_scan {S : St} (h : ok9 S) (x p d : Int32) : ok9 (scanS S x p d) := n9_of h rfl (mm_scan S x p d (by decide))
theorem n9_join {S : St} (h : ok9 S) (k t : Nat) (sh : Int32) : ok9 (joinS S k t sh) := fun j hj => by
  have hj' : 2 * nB S ≤ j := hj
  unfold joinS
  rw [mm_um]
  by_cases hjk : j = k
  · rw [if_pos ⟨rfl, hjk⟩]
  · rw [if_neg (fun z => hjk z.2), mm_um_ne _ _ _ (by decide), mm_um_ne _ _ _ (by decide)]
    exact h j hj'
theorem n9_item {S : St} (h : ok9 S) (b : Nat) (l : Int32) : ok9 (itemS S b l) := by
  refine n9_of h ?_ ?_
  · unfold itemS comeS; rw [nB_ur, nB_um, nB_um, nB_um, nB_um, nB_um]; unfold item1; rw [nB_uT, nB_um, nB_um, nB_um]
  · unfold itemS; rw [mm_come _ _ _ (by decide), mm_item1 _ _ (by decide)]
theorem n9_leave {S : St} (h : ok9 S) (b i : Nat) (l : List Nat) (v : Int32) : ok9 (um (ur S b l) 13 i v) := n9_of h (by rw [nB_um, nB_ur]) (by rw [mm_um_ne _ _ _ (by decide), mm_ur])
theorem n9_clean {b : Nat} : ∀ (n : Nat) {S : St}, ok9 S → ok9 (cleanN S b n) ∧ nB (cleanN S b n) = nB S
  | 0, _, h => ⟨h, rfl⟩
  | n + 1, S, h => by
    unfold cleanN
    cases hr : rr S b with
    | nil => exact ⟨h, rfl⟩
    | cons i t =>
      have := n9_clean (b := b) n (n9_leave h b i ((i :: t).eraseIdx 0) 2)
      exact ⟨this.1, this.2⟩
theorem n9_out {S : St} (h : ok9 S) (b : Nat) : ok9 (outS S b) := by
  unfold outS
  cases ha : atEndS S b with
  | none => exact h
  | some i => cases hg : goesS S b i with
    | some k => simp only [hg]; exact h
    | none =>
      simp only [hg]
      have a1 := n9_leave h b i ((rr S b).eraseIdx 0) 1
      have a2 : ok9 (ug (um (ur S b ((rr S b).eraseIdx 0)) 13 i 1) (gos S ++ [i])) := a1
      have a3 := n9_um a2 (k := 30) (by decide) 0 (mm S 30 0 + (mm S 1 0 - mm S 20 i))
      exact a3
theorem n9_pass {S : St} (h : ok9 S) (hS : okS S) {b : Nat} (hb : b < nB S) : ok9 (passS S b) := by
  unfold passS
  by_cases hz : 0 < missS S b
  · rw [if_pos hz]; exact h
  · rw [if_neg hz]
    cases hg : giverS S b b with
    | none => exact h
    | some k =>
      obtain ⟨x, hx, hk⟩ := giver_some b k hg
      obtain ⟨j, t, ht, -, -, ⟨y, hy, hky⟩, -, -⟩ := cand_some hS hk
      have hk2 : k / 2 = x := by omega
      simp only [hk2, ht]
      have a1 : ok9 (um (ur S x t) 9 k (mm S 9 k + 1)) := fun i hi => by
        have hi' : 2 * nB S ≤ i := hi
        rw [mm_um, if_neg (fun z => by omega), mm_ur]
        exact h i hi'
      have a2 : ok9 (comeS (um (ur S x t) 9 k (mm S 9 k + 1)) j b) := n9_of a1 (by unfold comeS; rw [nB_ur, nB_um, nB_um, nB_um, nB_um, nB_um]) (mm_come _ _ _ (by decide))
      exact a2
theorem n9_mv1 {S : St} (h : ok9 S) (b i : Nat) (most : Int32) : ok9 (mv1S S b most i) := n9_of h rfl (by rw [mm_mv1, mm_um_ne _ _ _ (by decide), mm_um_ne _ _ _ (by decide)])
theorem n9_mvL {b : Nat} : ∀ (l : List Nat) (S : St) (p : Option Nat), ok9 S → ok9 (mvLS S b p l)
  | [], S, p, h => by unfold mvLS; exact h
  | i :: t, S, p, h => by
    unfold mvLS
    exact n9_mvL t _ _ (n9_mv1 h b i _)
theorem n9_mvAll {S : St} (h : ok9 S) : ∀ n, ok9 (mvAllS S n)
  | 0 => by unfold mvAllS; exact h
  | n + 1 => by
    unfold mvAllS
    by_cases hz : mm (mvAllS S n) 6 n = 0
    · rw [if_pos hz]; exact n9_mvAll h n
    · rw [if_neg hz]; exact n9_mvL _ _ _ (n9_mvAll h n)
theorem n9_exAll : ∀ (n : Nat) (S : St), ok9 S → okS S → n ≤ nB S → ok9 (exAllS S n)
  | 0, S, h, _, _ => by unfold exAllS; exact h
  | n + 1, S, h, hS, hn => by
    unfold exAllS
    by_cases hz : mm S 6 n = 0
    · rw [if_pos hz]; exact n9_exAll n S h hS (by omega)
    · rw [if_neg hz]
      exact n9_exAll n (exchS S n) (n9_pass (n9_out h n) (ok_out hS (by omega)) (by rw [nB_out]; omega)) (ok_exch hS (by omega)) (by rw [nB_exch]; omega)
theorem n9_sec {S : St} (h : ok9 S) (hS : okS S) : ok9 (secS S) := by
  unfold secS
  have a1 : ok9 (tickS S) := n9_um h (by decide) _ _
  have a2 : ok9 (readS (tickS S)) := a1
  exact n9_mvAll (n9_exAll (nB S) _ a2 (ok_read (ok_tick hS)) (Nat.le_refl _)) _
theorem n9_steps {S : St} (h : ok9 S) (hS : okS S) : ∀ n, ok9 (stepsS S n)
  | 0 => h
  | n + 1 => n9_sec (n9_steps h hS n) (ok_steps hS n).1
