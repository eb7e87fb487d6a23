/-! WHAT HOLDS OF EVERY STATE IS KEPT: an item is passed on; items move -/
theorem mm14_come (S : St) (j b a : Nat) : mm (comeS S j b) 14 a = if a = j then nI b else mm S 14 a := by
  unfold comeS
  rw [mm_ur, mm_um_ne _ _ _ (by decide), mm_um_ne _ _ _ (by decide), mm_um_ne _ _ _ (by decide), mm_um_ne _ _ _ (by decide), mm_um]
  by_cases h : a = j
  · rw [if_pos ⟨rfl, h⟩, if_pos h]
  · rw [if_neg (fun z => h z.2), if_neg h]
theorem mm17_come (S : St) (j b a : Nat) : mm (comeS S j b) 17 a = if a = j then 0 else mm S 17 a := by
  unfold comeS
  rw [mm_ur, mm_um_ne _ _ _ (by decide), mm_um_ne _ _ _ (by decide), mm_um]
  by_cases h : a = j
  · rw [if_pos ⟨rfl, h⟩, if_pos h]
  · rw [if_neg (fun z => h z.2), if_neg h, mm_um_ne _ _ _ (by decide), mm_um_ne _ _ _ (by decide)]
theorem rr_come (S : St) (j b c : Nat) : rr (comeS S j b) c = if c = b then rr S b ++ [j] else rr S c := by
  unfold comeS
  rw [rr_ur, rr_um, rr_um, rr_um, rr_um, rr_um]
theorem ok_move {S : St} (h : okS S) {b x j k : Nat} {t : List Nat} {v : Int32} (ht : rr S x = j :: t) (hb : b < nB S) (hxb : b ≠ x) : okS (comeS (um (ur S x t) 9 k v) j b) := by
  have hm : j ∈ rr S x := by rw [ht]; exact List.mem_cons_self
  have hrow := fun c (hc : j ∈ rr S c) => ok_row h hc hm
  have hx : x < nB S := by
    rcases Nat.lt_or_ge x (nB S) with z | z
    · exact z
    · rw [h.2.1 x z] at hm; cases hm
  obtain ⟨h1, h2, h3, h4, h5, h6, h7, h8, h9, h10⟩ := h
  have hjj := h3 x j hm
  have hnd := h4 x
  rw [ht] at hnd
  obtain ⟨hjt, htn⟩ := List.nodup_cons.mp hnd
  have e13 : mm (comeS (um (ur S x t) 9 k v) j b) 13 = mm S 13 := by rw [mm_come _ _ _ (by decide), mm_um_ne _ _ _ (by decide), mm_ur]
  have e7 : mm (comeS (um (ur S x t) 9 k v) j b) 7 = mm S 7 := by rw [mm_come _ _ _ (by decide), mm_um_ne _ _ _ (by decide), mm_ur]
  have e22 : mm (comeS (um (ur S x t) 9 k v) j b) 22 = mm S 22 := by rw [mm_come _ _ _ (by decide), mm_um_ne _ _ _ (by decide), mm_ur]
  have e14 : ∀ a, mm (comeS (um (ur S x t) 9 k v) j b) 14 a = if a = j then nI b else mm S 14 a := fun a => by rw [mm14_come, mm_um_ne _ _ _ (by decide), mm_ur]
  have e17 : ∀ a, mm (comeS (um (ur S x t) 9 k v) j b) 17 a = if a = j then 0 else mm S 17 a := fun a => by rw [mm17_come, mm_um_ne _ _ _ (by decide), mm_ur]
  have er : ∀ c, rr (comeS (um (ur S x t) 9 k v) j b) c = if c = b then rr S b ++ [j] else if c = x then t else rr S c := fun c => by
    rw [rr_come, rr_um, rr_ur, rr_ur, if_neg hxb]
  have hjb : j ∉ rr S b := fun z => hxb (hrow b z)
  refine ⟨h1, fun c hc => ?_, fun c a ha => ?_, fun c => ?_, fun a ha1 ha2 => ?_, fun c hc y hy => ?_, ⟨h7.1, fun a ha => ?_⟩, fun s hs => ?_, h9, h10⟩
  · replace hc : nB S ≤ c := hc
    rw [er, if_neg (show c ≠ b by omega), if_neg (show c ≠ x by omega)]
    exact h2 c hc
  · rw [er] at ha
    rw [e13, e14, e17]
    by_cases haj : a = j
    · rw [if_pos haj, if_pos haj]
      by_cases hcb : c = b
      · rw [haj, hcb]; exact ⟨hjj.1, hjj.2.1, hjj.2.2.1, rfl, Or.inl rfl⟩
      · rw [if_neg hcb] at ha
        by_cases hcx : c = x
        · rw [if_pos hcx, haj] at ha; exact absurd ha hjt
        · rw [if_neg hcx, haj] at ha; exact absurd (hrow c ha) hcx
    · rw [if_neg haj, if_neg haj]
      by_cases hcb : c = b
      · rw [if_pos hcb] at ha
        rcases List.mem_append.mp ha with z | z
        · rw [hcb]; exact h3 b a z
        · exact absurd (List.mem_singleton.mp z) haj
      · rw [if_neg hcb] at ha
        by_cases hcx : c = x
        · rw [if_pos hcx] at ha
          rw [hcx]; exact h3 x a (by rw [ht]; exact List.mem_cons_of_mem _ ha)
        · rw [if_neg hcx] at ha; exact h3 c a ha
  · rw [er]
    by_cases hcb : c = b
    · rw [if_pos hcb]
      exact List.nodup_append.mpr ⟨h4 b, List.nodup_cons.mpr ⟨by simp, List.nodup_nil⟩, fun a ha a2 ha2 => by
        rw [List.mem_singleton.mp ha2]
        exact fun z => hjb (z ▸ ha)⟩
    · rw [if_neg hcb]
      by_cases hcx : c = x
      · rw [if_pos hcx]; exact htn
      · rw [if_neg hcx]; exact h4 c
  · by_cases haj : a = j
    · refine ⟨b, hb, by rw [e14, if_pos haj], fun _ => ?_⟩
      rw [er, if_pos rfl, haj]; simp
    · obtain ⟨c, c1, c2, c3⟩ := h5 a ha1 ha2
      refine ⟨c, c1, by rw [e14, if_neg haj]; exact c2, fun hz => ?_⟩
      rw [e13] at hz
      have := c3 hz
      rw [er]
      by_cases hcb : c = b
      · rw [if_pos hcb]; rw [hcb] at this; exact List.mem_append_left _ this
      · rw [if_neg hcb]
        by_cases hcx : c = x
        · rw [if_pos hcx]
          rw [hcx, ht] at this
          rcases List.mem_cons.mp this with z | z
          · exact absurd z haj
          · exact z
        · rw [if_neg hcx]; exact this
  · rw [e7]; exact h6 c hc y hy
  · rw [e13]; exact h7.2 a ha
  · rw [e22]; exact h8 s hs
theorem ok_pass {S : St} (h : okS S) {b : Nat} (hb : b < nB S) : okS (passS S b) := by
  unfold passS
  by_cases hz : 0 < missS S b
  · rw [if_pos hz]; exact h
  · rw [if_neg hz]
    cases hg : giverS S b b with
    | none => exact h
    | some k =>
      obtain ⟨x, hx, hk⟩ := giver_some b k hg
      obtain ⟨j, t, ht, -, -, ⟨y, hy, hky⟩, -, -⟩ := cand_some h hk
      have hk2 : k / 2 = x := by omega
      simp only [hk2, ht]
      have hj := h.2.2.1 x j (by rw [ht]; exact List.mem_cons_self)
      exact ok_tell (e := (mm S 1 0, 2, j, b)) (ok_move h ht hb (by omega)) ⟨(show 2 < 3 by decide), by have := hj.2.1; have := h.1.2.1; show j ≤ 60; omega, by have := h.1.1; show b < 8; omega⟩
theorem nB_out (S : St) (b : Nat) : nB (outS S b) = nB S := by
  unfold outS
  cases ha : atEndS S b with
  | none => rfl
  | some i => cases hg : goesS S b i with
    | none => simp only [hg] <;> rfl
    | some k => simp only [hg] <;> rfl
theorem nB_pass (S : St) (b : Nat) : nB (passS S b) = nB S := by
  unfold passS
  by_cases hz : 0 < missS S b
  · rw [if_pos hz]
  · rw [if_neg hz]
    cases hg : giverS S b b with
    | none => rfl
    | some k => cases hr : rr S (k / 2) with
      | nil => simp only [hr] <;> rfl
      | cons j t => simp only [hr] <;> rfl
theorem ok_exch {S : St} (h : okS S) {b : Nat} (hb : b < nB S) : okS (exchS S b) := ok_pass (ok_out h hb) (by rw [nB_out]; exact hb)
theorem nB_exch (S : St) (b : Nat) : nB (exchS S b) = nB S := by unfold exchS; rw [nB_pass, nB_out]
theorem rds_ok {S : St} {b i : Nat} {o n : Int32} (hi : i ≤ 60) : ∀ (s : Nat), s ≤ 4 → ∀ e ∈ rdsS S b i o n s, e.2.1 = 0 ∧ e.2.2.1 ≤ 60 ∧ e.2.2.2 < 8
  | 0, _, e, he => by unfold rdsS at he; cases he
  | s + 1, hs, e, he => by
    unfold rdsS at he
    rcases List.mem_append.mp he with z | z
    · exact rds_ok hi s (by omega) e z
    · by_cases hc : mm S 22 s = nI b ∧ o < mm S 23 s ∧ mm S 23 s ≤ n
      · rw [if_pos hc] at z
        rw [List.mem_singleton.mp z]
        exact ⟨rfl, hi, by show s < 8; omega⟩
      · rw [if_neg hc] at z; cases z
theorem ok_mv1 {S : St} (h : okS S) {b i : Nat} {most : Int32} (hi : i ≤ 60) : okS (mv1S S b most i) :=
  ok_wait (ok_um (ok_um h (by unfold okSlot; decide) _ _) (by unfold okSlot; decide) _ _) (rds_ok hi (nS S) h.1.2.2)
theorem ok_mvL {b : Nat} : ∀ (l : List Nat) (S : St) (p : Option Nat), okS S → (∀ i ∈ l, i ≤ 60) → okS (mvLS S b p l)
  | [], S, p, h, _ => by unfold mvLS; exact h
  | i :: t, S, p, h, hl => by
    unfold mvLS
    exact ok_mvL t _ _ (ok_mv1 h (hl i List.mem_cons_self)) (fun j hj => hl j (List.mem_cons_of_mem _ hj))
theorem ok_moveS {S : St} (h : okS S) (b : Nat) : okS (moveS S b) := ok_mvL _ S none h (fun i hi => by have := (h.2.2.1 b i hi).2.1; have := h.1.2.1; omega)
theorem nB_mvL {b : Nat} : ∀ (l : List Nat) (S : St) (p : Option Nat), nB (mvLS S b p l) = nB S ∧ nS (mvLS S b p l) = nS S
  | [], S, p => by unfold mvLS; exact ⟨rfl, rfl⟩
  | i :: t, S, p => by
    unfold mvLS
    have := nB_mvL (b := b) t (mv1S S b (mostS S b p) i) (some i)
    exact ⟨this.1, this.2⟩
theorem ok_mvAll {S : St} (h : okS S) : ∀ n, okS (mvAllS S n)
  | 0 => by unfold mvAllS; exact h
  | n + 1 => by
    unfold mvAllS
    by_cases hz : mm (mvAllS S n) 6 n = 0
    · rw [if_pos hz]; exact ok_mvAll h n
    · rw [if_neg hz]; exact ok_moveS (ok_mvAll h n) n
theorem nB_mvAll (S : St) : ∀ n, nB (mvAllS S n) = nB S ∧ nS (mvAllS S n) = nS S
  | 0 => by unfold mvAllS; exact ⟨rfl, rfl⟩
  | n + 1 => by
    unfold mvAllS
    by_cases hz : mm (mvAllS S n) 6 n = 0
    · rw [if_pos hz]; exact nB_mvAll S n
    · rw [if_neg hz]
      have := nB_mvL (b := n) (rr (mvAllS S n) n) (mvAllS S n) none
      exact ⟨this.1.trans (nB_mvAll S n).1, this.2.trans (nB_mvAll S n).2⟩
theorem ok_exAll : ∀ (n : Nat) (S : St), okS S → n ≤ nB S → okS (exAllS S n) ∧ nB (exAllS S n) = nB S
  | 0, S, h, _ => by unfold exAllS; exact ⟨h, rfl⟩
  | n + 1, S, h, hn => by
    unfold exAllS
    by_cases hz : mm S 6 n = 0
    · rw [if_pos hz]; exact ok_exAll n S h (by omega)
    · rw [if_neg hz]
      have := ok_exAll n (exchS S n) (ok_exch h (by omega)) (by rw [nB_exch]; omega)
      exact ⟨this.1, this.2.trans (nB_exch S n)⟩
