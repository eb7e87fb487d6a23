/-! THE CLASS: what it reads -/
theorem range_get {α : Type} {f : Nat → α} {n j : Nat} (h : j < n) : ((List.range n).map f)[j]? = some (f j) := by
  rw [List.getElem?_map, List.getElem?_range h]; rfl
theorem opt_ne {α : Type} {o : Option α} (h : ¬ o = none) : ∃ x, o = some x := by
  cases o with
  | none => exact absurd rfl h
  | some x => exact ⟨x, rfl⟩
/-- an item of a row -/
theorem in_row {S : St} (hS : okS S) {b i : Nat} (h : i ∈ rr S b) : b < nB S ∧ 1 ≤ i ∧ i ≤ nT S ∧ mm S 13 i = 0 ∧ mm S 14 i = nI b ∧ (mm S 17 i = 0 ∨ mm S 17 i = 1) ∧ b < 8 ∧ i < 61 := by
  have h1 := hS.2.2.1 b i h
  have hb : b < nB S := by
    rcases Nat.lt_or_ge b (nB S) with z | z
    · exact z
    · rw [hS.2.1 b z] at h; cases h
  have := hS.1
  exact ⟨hb, h1.1, h1.2.1, h1.2.2.1, h1.2.2.2.1, h1.2.2.2.2, by omega, by omega⟩
section CL
variable {e0 mi q : Nat} {P : Nat → Nat → Nat} {S : St} {w : Wd} {LE LW : List (Nat × Ed)}
theorem C_rear {i : Nat} {Q : Int32 → Wd → Prop} (R : RC e0 S w q P LE LW) (h1 : 1 ≤ i) (h2 : i ≤ nT S) (h0 : mm S 13 i = 0) (hQ : Q (rearS S i) w) : wp_It_rear e0 mi (P 1 i) w Q := by
  unfold wp_It_rear
  have h5 := R.2.2.2.2.1.1 i h1 h2
  refine ⟨h5.1, ?_⟩
  rw [(h5.2.2.2.2.2.2 h0).1, h5.2.2.1]
  exact hQ
/-- what is missing to room, never below 0 -/
def missC (S : St) (b : Nat) : Int32 := if (0 : Int32) < missS S b then missS S b else 0
theorem C_missing {b : Nat} {Q : Int32 → Wd → Prop} (R : RC e0 S w q P LE LW) (hS : okS S) (hb : b < nB S) (hQ : Q (missC S b) w) : wp_Br_missingToRoom e0 mi q (some (P 0 b)) w Q := by
  unfold wp_Br_missingToRoom wb_Br_missingToRoom_27
  have h3 := R.2.2.1.1 b hb
  have h35 := h3.2.2.2.2.2.2.2.1
  unfold missC missS at hQ
  refine ⟨P 0 b, rfl, h3.1, ?_⟩
  rw [h35]
  cases hl : (rr S b).getLast? with
  | none =>
    rw [hl] at hQ
    refine ⟨fun z => absurd rfl z, fun _ => ?_⟩
    have : (if (0 : Int32) < 0 then (0 : Int32) else 0) = 0 := by decide
    simp only [] at hQ
    rw [this] at hQ
    exact hQ
  | some i =>
    rw [hl] at hQ
    have hi := in_row hS (List.mem_of_getLast? hl)
    have h5 := R.2.2.2.2.1.1 i hi.2.1 hi.2.2.1
    refine ⟨fun _ => ⟨R.1.1, P 1 i, rfl, h5.1, C_rear R hi.2.1 hi.2.2.1 hi.2.2.2.1 (fun i14 e14 => ?_)⟩, fun z => absurd z (by simp)⟩
    rw [R.1.2.1] at e14
    subst e14
    exact hQ
theorem C_atEnd {b : Nat} {Q : Option Nat → Wd → Prop} (R : RC e0 S w q P LE LW) (hS : okS S) (hb : b < nB S) (hQ : Q ((atEndS S b).map (P 1)) w) : wp_Bt_itemAtEnd e0 mi (P 0 b) w Q := by
  unfold wp_Bt_itemAtEnd wb_Bt_itemAtEnd_28 wb_Bt_itemAtEnd_29
  have h3 := R.2.2.1.1 b hb
  have h34 := h3.2.2.2.2.2.2.1
  unfold atEndS at hQ
  refine ⟨h3.1, ?_⟩
  rw [h34]
  cases hl : rr S b with
  | nil =>
    rw [hl] at hQ
    exact ⟨fun _ => hQ, fun z => absurd rfl z⟩
  | cons i t =>
    rw [hl] at hQ
    have hi := in_row hS (show i ∈ rr S b by rw [hl]; exact List.mem_cons_self)
    have h5 := R.2.2.2.2.1.1 i hi.2.1 hi.2.2.1
    refine ⟨fun z => absurd z (by simp), fun _ => ⟨P 1 i, rfl, h5.1, ?_⟩⟩
    rw [(h5.2.2.2.2.2.2 hi.2.2.2.1).1, h3.2.2.1]
    refine ⟨fun z => ?_, fun z => ?_⟩
    · simp only [if_neg z] at hQ
      exact hQ
    · simp only [if_pos z] at hQ
      exact hQ
theorem C_wayN {b y : Nat} {v : Int32} {Q : Option Nat → Wd → Prop} (R : RC e0 S w q P LE LW) (hb : b < nB S) (hy : y < 2) (hv : v = nI y) (hQ : Q (some (P 2 (2 * b + y))) w) : wp_Bt_wayNumbered e0 mi (P 0 b) v w Q := by
  unfold wp_Bt_wayNumbered wb_Bt_wayNumbered_16
  have h3 := R.2.2.1.1 b hb
  rw [h3.2.2.2.2.2.2.2.2.1, h3.2.2.2.2.2.2.2.2.2, hv]
  rcases Nat.lt_or_ge y 1 with z | z
  · have y0 : y = 0 := by omega
    subst y0
    exact ⟨fun _ => ⟨h3.1, hQ⟩, fun z => absurd z (by decide)⟩
  · have y1 : y = 1 := by omega
    subst y1
    exact ⟨fun z => absurd rfl z, fun _ => ⟨h3.1, hQ⟩⟩
/-- the next belt of a way -/
theorem way_next (R : RC e0 S w q P LE LW) (hS : okS S) {b y : Nat} (hb : b < nB S) (hy : y < 2) : (mm S 7 (2 * b + y) = -1 ↔ wR w (P 2 (2 * b + y)) 0 = none) := by
  have h4 := R.2.2.2.1.1 (2 * b + y) (by omega)
  refine ⟨h4.2.2.1, fun z => ?_⟩
  rcases hS.2.2.2.2.2.1 b hb y hy with h | ⟨c, c1, c2, c3⟩
  · exact h
  · rw [h4.2.2.2.1 c c2 c3] at z; cases z
theorem C_wayOf {b i : Nat} {Q : Option Nat → Wd → Prop} (R : RC e0 S w q P LE LW) (hS : okS S) (hi : i ∈ rr S b) (hQ : Q ((goesS S b i).map (P 2)) w) : wp_Bt_wayOf e0 mi (P 0 b) (some (P 1 i)) w Q := by
  obtain ⟨hb, i1, i2', i3, i4, i5, b8, i61⟩ := in_row hS hi
  have h3 := R.2.2.1.1 b hb
  have h5 := R.2.2.2.2.1.1 i i1 i2'
  obtain ⟨y, hy, hy2⟩ : ∃ y, mm S 17 i = nI y ∧ y < 2 := by
    rcases i5 with z | z
    · exact ⟨0, z, by decide⟩
    · exact ⟨1, z, by decide⟩
  have cy : (nI y).toNatClampNeg = y := nI_clamp (by omega)
  have n1 := way_next R hS hb hy2
  have n0 : mm S 7 (2 * b) = -1 ↔ wR w (P 2 (2 * b)) 0 = none := way_next R hS hb (y := 0) (by decide)
  unfold goesS at hQ
  rw [hy, cy] at hQ
  unfold wp_Bt_wayOf wb_Bt_wayOf_36
  refine ⟨P 1 i, rfl, h5.1, h3.1, C_wayN R hb hy2 ((h5.2.2.2.2.2.2 i3).2.2.1.trans hy) ⟨P 2 (2 * b + y), rfl, (R.2.2.2.1.1 (2 * b + y) (by omega)).1, fun z => ⟨h3.1, P 2 (2 * b), h3.2.2.2.2.2.2.2.2.1, (R.2.2.2.1.1 (2 * b) (by omega)).1, fun z2 => ?_, fun z2 => ?_⟩, fun z => ?_⟩⟩
  · rw [if_pos (n1.mpr z), if_pos (n0.mpr z2)] at hQ; exact hQ
  · rw [if_pos (n1.mpr z), if_neg (fun y => z2 (n0.mp y))] at hQ
    rw [h3.2.2.2.2.2.2.2.2.1]; exact hQ
  · rw [if_neg (fun y => z (n1.mp y))] at hQ; exact hQ
/-- the way by which a belt would pass its first item on now -/
def useS (S : St) (x : Nat) : Option Nat := if mm S 6 x = 0 then none else match atEndS S x with
  | none => none
  | some j => goesS S x j
theorem C_inUse {x : Nat} {Q : Option Nat → Wd → Prop} (R : RC e0 S w q P LE LW) (hS : okS S) (hx : x < nB S) (hQ : Q ((useS S x).map (P 2)) w) : wp_Bt_wayInUse e0 mi (P 0 x) w Q := by
  have h3 := R.2.2.1.1 x hx
  unfold wp_Bt_wayInUse wb_Bt_wayInUse_24 wb_Bt_wayInUse_25
  unfold useS at hQ
  refine ⟨h3.1, C_atEnd R hS hx ⟨h3.1, ?_⟩⟩
  rw [h3.2.2.2.2.1]
  refine ⟨fun z => ?_, fun z => ?_⟩
  · rw [if_pos z] at hQ; exact hQ
  · rw [if_neg z] at hQ
    cases ha : atEndS S x with
    | none =>
      rw [ha] at hQ
      exact ⟨fun _ => hQ, fun z => absurd rfl z⟩
    | some j =>
      rw [ha] at hQ
      obtain ⟨t, ht, -⟩ := atEnd_some ha
      exact ⟨fun z => absurd z (by simp), fun _ => C_wayOf R hS (by rw [ht]; exact List.mem_cons_self) hQ⟩
theorem use_cand {S : St} (b x : Nat) : candS S b x = match useS S x with
    | none => none
    | some k => if mm S 7 k = nI b then some k else none := by
  unfold candS useS
  by_cases h6 : mm S 6 x = 0
  · rw [if_pos h6, if_pos h6]
  · rw [if_neg h6, if_neg h6]
    cases ha : atEndS S x with
    | none => rfl
    | some j => rfl
theorem use_some {S : St} (hS : okS S) {x k : Nat} (h : useS S x = some k) : x < nB S ∧ (∃ y, y < 2 ∧ k = 2 * x + y) ∧ ¬ mm S 7 k = -1 := by
  unfold useS at h
  by_cases h6 : mm S 6 x = 0
  · rw [if_pos h6] at h; cases h
  · rw [if_neg h6] at h
    cases ha : atEndS S x with
    | none => rw [ha] at h; cases h
    | some j =>
      rw [ha] at h
      obtain ⟨t, ht, -⟩ := atEnd_some ha
      have hi := in_row hS (show j ∈ rr S x by rw [ht]; exact List.mem_cons_self)
      rcases goes_gb (b := x) hi.2.2.2.2.2.1 with ⟨-, g2⟩ | ⟨y, y1, -, g2, g3⟩
      · simp [g2] at h
      · simp only [g2] at h
        cases h
        exact ⟨hi.1, ⟨y, y1, rfl⟩, g3⟩
/-- the list of belts -/
theorem C_beltAt {j : Nat} {Q : Option Nat → Wd → Prop} (R : RC e0 S w q P LE LW) (hj : j < nB S) (hQ : Q (some (P 0 j)) w) : wp_Al_get e0 mi (P 6 0) (nI j) w Q := isK_get (R.2.1.1 0 (by decide)) (range_get hj) hQ
theorem C_size {k : Nat} {Q : Int32 → Wd → Prop} (R : RC e0 S w q P LE LW) (hk : k < 6) (hQ : Q (nI (lsx S P LE LW k).length) w) : ∃ a : Nat, (wR w q k) = some a ∧ (bw_is w a 7 ∧ wp_Al_size e0 mi a w Q) :=
  ⟨P 6 k, R.1.2.2.2.2 k hk, (R.2.1.1 k hk).1, isK_size (R.2.1.1 k hk) hQ⟩
theorem lsx0 (S : St) (P : Nat → Nat → Nat) (LE LW : List (Nat × Ed)) : (lsx S P LE LW 0).length = nB S := by simp [lsx]
theorem C_giver {b : Nat} {Q : Option Nat → Wd → Prop} (R : RC e0 S w q P LE LW) (hS : okS S) (hb : b < nB S) (hQ : Q ((giverS S b b).map (fun k => P 0 (k / 2))) w) : ∀ (n x : Nat), x + n = b → wb_Br_giverTo_7 e0 mi Q (n + 1) q (some (P 0 b)) ((giverS S b x).map (fun k => P 0 (k / 2))) ((giverS S b x).map (P 2)) (nI x) w := by
  have hb8 := hS.1.1
  have h3 := R.2.2.1.1 b hb
  intro n
  induction n with
  | zero =>
    intro x hx
    have : x = b := by omega
    subst this
    unfold wb_Br_giverTo_7 wb_Br_giverTo_88
    refine ⟨P 0 x, rfl, h3.1, ?_⟩
    rw [h3.2.1]
    exact ⟨fun _ => hQ, fun z => absurd (nI_le (Nat.le_refl _) (by omega)) z⟩
  | succ n ih =>
    intro x hx
    have hxB : x < nB S := by omega
    have hnext : ∀ (best : Option Nat) (r5 r6 : Option Nat), giverS S b (x + 1) = best → wb_Br_giverTo_82 e0 mi (wb_Br_giverTo_7 e0 mi Q (n + 1)) Q q (some (P 0 b)) (best.map (fun k => P 0 (k / 2))) (best.map (P 2)) (nI x) r5 r6 w := fun best r5 r6 hbest => by
      unfold wb_Br_giverTo_82
      intro i1 e1
      rw [e1, nI_1, ← hbest]
      exact ih (x + 1) (by omega)
    unfold wb_Br_giverTo_7
    refine ⟨P 0 b, rfl, h3.1, ?_⟩
    rw [h3.2.1]
    refine ⟨fun z => absurd z (nI_ge (by omega) (by omega)), fun _ => ⟨R.1.1, C_size R (k := 0) (by decide) ?_⟩⟩
    rw [lsx0]
    refine ⟨fun z => absurd z (nI_ge hxB (by omega)), fun _ => ⟨R.1.1, P 6 0, R.1.2.2.2.2 0 (by decide), (R.2.1.1 0 (by decide)).1, C_beltAt R hxB ⟨fun a ha => (by cases ha; exact (R.2.2.1.1 x hxB).1), P 0 x, rfl, (R.2.2.1.1 x hxB).1, C_inUse R hS hxB ?_⟩⟩⟩
    cases hu : useS S x with
    | none =>
      have hc : candS S b x = none := by rw [use_cand, hu]
      exact ⟨fun _ => hnext _ _ _ (giver_step hc), fun z => absurd rfl z⟩
    | some k =>
      obtain ⟨-, ⟨y, hy, hky⟩, hk7⟩ := use_some hS hu
      have hk2 : k / 2 = x := by omega
      have h4 := R.2.2.2.1.1 k (by omega)
      obtain ⟨c, c1, c2, c3⟩ : ∃ c, x < c ∧ c < nB S ∧ mm S 7 k = nI c := by
        rcases hS.2.2.2.2.2.1 x hxB y hy with z | z
        · rw [← hky] at z; exact absurd z hk7
        · rw [← hky] at z; exact z
      refine ⟨fun z => absurd z (by simp), fun _ => ⟨P 2 k, rfl, h4.1, ?_⟩⟩
      rw [h4.2.2.2.1 c c2 c3]
      have hcb : (some (P 0 c) = some (P 0 b)) ↔ mm S 7 k = nI b := by
        rw [c3]
        constructor
        · intro z
          rw [R.2.2.1.2 c b c2 hb (Option.some.inj z)]
        · intro z
          rw [(nI_eq (by omega) (by omega)).mp z]
      refine ⟨fun z => ?_, fun z => ?_⟩
      · have hc : candS S b x = none := by rw [use_cand, hu]; simp only [if_neg (fun y => z (hcb.mpr y))]
        exact hnext _ _ _ (giver_step hc)
      · have hc : candS S b x = some k := by rw [use_cand, hu]; simp only [if_pos (hcb.mp z)]
        have e1 : (some (P 0 x) : Option Nat) = (some k).map (fun k => P 0 (k / 2)) := by show some (P 0 x) = some (P 0 (k / 2)); rw [hk2]
        refine ⟨fun z2 => ?_, fun z2 => ?_⟩
        · have hbn : giverS S b x = none := by
            cases hg : giverS S b x with
            | none => rfl
            | some j => rw [hg] at z2; cases z2
          unfold wb_Br_giverTo_76
          rw [e1]
          exact hnext (some k) _ _ (by rw [giver_step hc, hbn]; rfl)
        · cases hg : giverS S b x with
          | none => rw [hg] at z2; exact absurd rfl z2
          | some j =>
            obtain ⟨x', hx', hk'⟩ := giver_some x j hg
            obtain ⟨j', t', -, -, -, ⟨y', hy', hky'⟩, h7j, -⟩ := cand_some hS hk'
            have h4j := R.2.2.2.1.1 j (by omega)
            have nj : ¬ mm S 7 j = -1 := by rw [h7j]; exact nI_nm (by omega)
            unfold wp_Wy_isDueBefore wb_Wy_isDueBefore_26
            refine ⟨h4.1, P 2 j, rfl, h4j.1, ?_⟩
            rw [h4.2.1, h4j.2.1, h4.2.2.2.2 hk7, h4j.2.2.2.2 nj]
            refine ⟨fun q3 => ⟨Or.inl rfl, fun _ => ?_, fun y => absurd rfl y⟩, fun q3 => ⟨Or.inr rfl, fun y => absurd y (by decide), fun _ => ?_⟩⟩
            · refine hnext (some j) _ _ ?_
              rw [giver_step hc, hg]
              show (if mm S 9 k * mm S 8 j < mm S 9 j * mm S 8 k then some k else some j) = some j
              rw [if_neg (Int32.not_lt.mpr q3)]
            · unfold wb_Br_giverTo_76
              rw [e1]
              refine hnext (some k) _ _ ?_
              rw [giver_step hc, hg]
              show (if mm S 9 k * mm S 8 j < mm S 9 j * mm S 8 k then some k else some j) = some k
              rw [if_pos (Int32.not_le.mp q3)]
end CL
