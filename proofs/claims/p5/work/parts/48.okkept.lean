/-! WHAT HOLDS OF EVERY STATE IS KEPT: by a second's parts -/
def okSlot (k : Nat) : Prop := k ≠ 13 ∧ k ≠ 14 ∧ k ≠ 17 ∧ k ≠ 7 ∧ k ≠ 22
theorem ok_um {S : St} (h : okS S) {k : Nat} (hk : okSlot k) (i : Nat) (v : Int32) : okS (um S k i v) := by
  obtain ⟨k13, k14, k17, k7, k22⟩ := hk
  have e13 := mm_um_ne S i v (Ne.symm k13)
  have e14 := mm_um_ne S i v (Ne.symm k14)
  have e17 := mm_um_ne S i v (Ne.symm k17)
  have e7 := mm_um_ne S i v (Ne.symm k7)
  have e22 := mm_um_ne S i v (Ne.symm k22)
  obtain ⟨h1, h2, h3, h4, h5, h6, h7, h8, h9, h10⟩ := h
  refine ⟨h1, h2, fun b j hj => ?_, h4, fun j hj1 hj2 => ?_, fun b hb y hy => ?_, ⟨h7.1, fun j hj => ?_⟩, fun s hs => ?_, h9, h10⟩
  · rw [e13, e14, e17]; exact h3 b j hj
  · rw [e13, e14]; exact h5 j hj1 hj2
  · rw [e7]; exact h6 b hb y hy
  · rw [e13]; exact h7.2 j hj
  · rw [e22]; exact h8 s hs
theorem ok_tick {S : St} (h : okS S) : okS (tickS S) := ok_um h (by unfold okSlot; decide) _ _
theorem ok_read {S : St} (h : okS S) : okS (readS S) := by
  obtain ⟨h1, h2, h3, h4, h5, h6, h7, h8, h9, h10⟩ := h
  refine ⟨h1, h2, h3, h4, h5, h6, h7, h8, fun e he => ?_, fun e he => ?_⟩
  · exact h9 e (List.mem_filter.mp he).1
  · rcases List.mem_append.mp he with z | z
    · exact h10 e z
    · have := h9 e (List.mem_filter.mp z).1
      exact ⟨by rw [this.1]; decide, this.2⟩
theorem ok_tell {S : St} (h : okS S) {e : Ed} (he : e.2.1 < 3 ∧ e.2.2.1 ≤ 60 ∧ e.2.2.2 < 8) : okS (tellS S e) := by
  obtain ⟨h1, h2, h3, h4, h5, h6, h7, h8, h9, h10⟩ := h
  refine ⟨h1, h2, h3, h4, h5, h6, h7, h8, h9, fun x hx => ?_⟩
  rcases List.mem_append.mp hx with z | z
  · exact h10 x z
  · rw [List.mem_singleton.mp z]; exact he
theorem ok_wait {S : St} (h : okS S) {l : List Ed} (hl : ∀ e ∈ l, e.2.1 = 0 ∧ e.2.2.1 ≤ 60 ∧ e.2.2.2 < 8) : okS (waitS S l) := by
  obtain ⟨h1, h2, h3, h4, h5, h6, h7, h8, h9, h10⟩ := h
  refine ⟨h1, h2, h3, h4, h5, h6, h7, h8, fun x hx => ?_, h10⟩
  rcases List.mem_append.mp hx with z | z
  · exact h9 x z
  · exact hl x z
/-- an item in a row is in no other -/
theorem ok_row {S : St} (h : okS S) {b c i : Nat} (hb : i ∈ rr S b) (hc : i ∈ rr S c) : b = c := by
  have b8 : b < 8 := by
    rcases Nat.lt_or_ge b (nB S) with z | z
    · have := h.1.1; omega
    · rw [h.2.1 b z] at hb; cases hb
  have c8 : c < 8 := by
    rcases Nat.lt_or_ge c (nB S) with z | z
    · have := h.1.1; omega
    · rw [h.2.1 c z] at hc; cases hc
  have e1 := (h.2.2.1 b i hb).2.2.2.1
  have e2 := (h.2.2.1 c i hc).2.2.2.1
  rw [e1] at e2
  exact (nI_eq (by omega) (by omega)).mp e2
theorem erase_mem {l : List Nat} {p i j : Nat} (hn : l.Nodup) (hp : l[p]? = some i) : j ∈ l.eraseIdx p ↔ j ∈ l ∧ j ≠ i := by
  have hlt := (List.getElem?_eq_some_iff.mp hp)
  constructor
  · intro hj
    refine ⟨List.mem_of_mem_eraseIdx hj, fun z => ?_⟩
    subst z
    obtain ⟨q, hq⟩ := List.mem_iff_getElem?.mp hj
    rw [List.getElem?_eraseIdx] at hq
    by_cases hqp : q < p
    · rw [if_pos hqp] at hq
      exact nodup_first hn hp q hqp hq
    · rw [if_neg hqp] at hq
      exact nodup_first hn hq p (by omega) hp
  · intro ⟨hj, hne⟩
    obtain ⟨q, hq⟩ := List.mem_iff_getElem?.mp hj
    rcases Nat.lt_trichotomy q p with z | z | z
    · exact List.mem_iff_getElem?.mpr ⟨q, by rw [List.getElem?_eraseIdx, if_pos z]; exact hq⟩
    · subst z
      rw [hp] at hq
      cases hq
      exact absurd rfl hne
    · refine List.mem_iff_getElem?.mpr ⟨q - 1, ?_⟩
      rw [List.getElem?_eraseIdx, if_neg (by omega), show q - 1 + 1 = q by omega]
      exact hq
/-- an item leaves its row, with another state than 0 -/
theorem ok_leave {S : St} (h : okS S) {b p i : Nat} {v : Int32} (hp : (rr S b)[p]? = some i) (hv : ¬ v = 0) : okS (um (ur S b ((rr S b).eraseIdx p)) 13 i v) := by
  have hm : i ∈ rr S b := List.mem_of_getElem? hp
  have hrow := fun c (hc : i ∈ rr S c) => ok_row h hc hm
  obtain ⟨h1, h2, h3, h4, h5, h6, h7, h8, h9, h10⟩ := h
  have e14 := mm_um_ne (ur S b ((rr S b).eraseIdx p)) i v (show (14 : Nat) ≠ 13 by decide)
  have e17 := mm_um_ne (ur S b ((rr S b).eraseIdx p)) i v (show (17 : Nat) ≠ 13 by decide)
  have e7 := mm_um_ne (ur S b ((rr S b).eraseIdx p)) i v (show (7 : Nat) ≠ 13 by decide)
  have e22 := mm_um_ne (ur S b ((rr S b).eraseIdx p)) i v (show (22 : Nat) ≠ 13 by decide)
  have e13 : ∀ j, j ≠ i → mm (um (ur S b ((rr S b).eraseIdx p)) 13 i v) 13 j = mm S 13 j := fun j hj => by rw [mm_um, if_neg (fun z => hj z.2), mm_ur]
  have erow : ∀ c j, j ∈ rr (um (ur S b ((rr S b).eraseIdx p)) 13 i v) c → j ∈ rr S c ∧ j ≠ i := fun c j hj => by
    rw [rr_um, rr_ur] at hj
    by_cases hc : c = b
    · rw [if_pos hc] at hj
      rw [hc]
      exact (erase_mem (h4 b) hp).mp hj
    · rw [if_neg hc] at hj
      exact ⟨hj, fun z => hc (hrow c (z ▸ hj))⟩
  have erow2 : ∀ c j, j ∈ rr S c → j ≠ i → j ∈ rr (um (ur S b ((rr S b).eraseIdx p)) 13 i v) c := fun c j hj hne => by
    rw [rr_um, rr_ur]
    by_cases hc : c = b
    · rw [if_pos hc]
      rw [hc] at hj
      exact (erase_mem (h4 b) hp).mpr ⟨hj, hne⟩
    · rw [if_neg hc]; exact hj
  refine ⟨h1, fun c hc => ?_, fun c j hj => ?_, fun c => ?_, fun j hj1 hj2 => ?_, fun c hc y hy => ?_, ⟨h7.1, fun j hj => ?_⟩, fun s hs => ?_, h9, h10⟩
  · rw [rr_um, rr_ur]
    by_cases hcb : c = b
    · rw [hcb] at hc
      have := h2 b hc
      rw [this] at hm
      cases hm
    · rw [if_neg hcb]; exact h2 c hc
  · obtain ⟨q1, q2⟩ := erow c j hj
    rw [e13 j q2, e14, e17, mm_ur]
    exact h3 c j q1
  · rw [rr_um, rr_ur]
    by_cases hcb : c = b
    · rw [if_pos hcb]; exact (h4 b).eraseIdx p
    · rw [if_neg hcb]; exact h4 c
  · obtain ⟨c, c1, c2, c3⟩ := h5 j hj1 hj2
    refine ⟨c, c1, by rw [e14, mm_ur]; exact c2, fun hz => ?_⟩
    by_cases hji : j = i
    · rw [hji, mm_um, if_pos ⟨rfl, rfl⟩] at hz
      exact absurd hz hv
    · rw [e13 j hji] at hz
      exact erow2 c j (c3 hz) hji
  · rw [e7, mm_ur]; exact h6 c hc y hy
  · have hji : j ≠ i := fun z => by
      have q1 := (h7.2 j hj).2.2
      rw [z, (h3 b i hm).2.2.1] at q1
      exact absurd q1 (by decide)
    rw [e13 j hji]; exact h7.2 j hj
  · rw [e22, mm_ur]; exact h8 s hs
theorem ok_gone {S : St} (h : okS S) {i : Nat} (h1 : 1 ≤ i) (h2 : i ≤ nT S) (hi : mm S 13 i = 1) (hn : i ∉ gos S) : okS (ug S (gos S ++ [i])) := by
  obtain ⟨g1, g2, g3, g4, g5, g6, g7, g8, g9, g10⟩ := h
  refine ⟨g1, g2, g3, g4, g5, g6, ⟨?_, fun j hj => ?_⟩, g8, g9, g10⟩
  · rw [gos_ug]
    exact List.nodup_append.mpr ⟨g7.1, List.nodup_cons.mpr ⟨by simp, List.nodup_nil⟩, fun a ha b hb => by
      rw [List.mem_singleton.mp hb]
      exact fun z => hn (z ▸ ha)⟩
  · rw [gos_ug] at hj
    rcases List.mem_append.mp hj with z | z
    · exact g7.2 j z
    · rw [List.mem_singleton.mp z]; exact ⟨h1, h2, hi⟩
theorem ok_out {S : St} (h : okS S) {b : Nat} (hb : b < nB S) : okS (outS S b) := by
  unfold outS
  cases ha : atEndS S b with
  | none => exact h
  | some i =>
    obtain ⟨t, ht, -⟩ := atEnd_some ha
    have hm : i ∈ rr S b := by rw [ht]; exact List.mem_cons_self
    have hi := h.2.2.1 b i hm
    cases hg : goesS S b i with
    | some k => simp only [hg]; exact h
    | none =>
      simp only [hg]
      have hp : (rr S b)[0]? = some i := by rw [ht]; rfl
      have q1 := ok_leave h hp (v := 1) (by decide)
      have hng : i ∉ gos S := fun z => by
        have := (h.2.2.2.2.2.2.1.2 i z).2.2
        rw [hi.2.2.1] at this
        exact absurd this (by decide)
      have q2 := ok_gone (i := i) q1 hi.1 hi.2.1 (by rw [mm_um, if_pos ⟨rfl, rfl⟩]) hng
      have q3 := ok_um q2 (k := 30) (by unfold okSlot; decide) 0 (mm S 30 0 + (mm S 1 0 - mm S 20 i))
      exact ok_tell (e := (mm S 1 0, 1, i, b)) q3 ⟨(show 1 < 3 by decide), by have := hi.2.1; have := h.1.2.1; show i ≤ 60; omega, by have := h.1.1; show b < 8; omega⟩
