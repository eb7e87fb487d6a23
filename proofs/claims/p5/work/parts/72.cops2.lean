/-! CALLS OF THE CLASS: step, slip, edge, order, mean, told -/
section CL
variable {e0 mi q : Nat} {P : Nat → Nat → Nat} {S : St} {w : Wd} {LE LW : List (Nat × Ed)}
theorem B_step {x1 : Int32} {nc ns : Nat} {Q : Int32 → Wd → Prop} {X : String → Wd → Prop} (R : RC e0 S w q P LE LW) (hS : okS S) (hphi : Phi S < 2900) (h1 : ¬ rng x1 0 100 → 1 ≤ nc ∧ 6 ≤ ns ∧ X "java/lang/IllegalArgumentException" w)
    (hc : ∀ k, k ≤ 100 → x1 = nI k → usC (stepsS S k) ≤ usC S + nc ∧ usS (stepsS S k) ≤ usS S + ns)
    (h0 : ∀ k, k ≤ 100 → x1 = nI k → ∀ w' P' LE' LW', RC e0 (stepsS S k) w' q P' LE' LW' → FrC w w' → Q (nI (eds (stepsS S k)).length - nI (eds S).length) w') : wp_Br_step e0 mi q x1 w nc ns Q X := by
  unfold wp_Br_step
  by_cases hr : rng x1 0 100
  · obtain ⟨k, hk, hx⟩ := nI_of2 (M := 100) (n := 100) (by decide) hr.1 (Int32.not_lt.mp hr.2)
    refine ⟨0, 0, Nat.zero_le _, Nat.zero_le _, ck_ok (fun z => absurd hr z) (fun _ => ⟨R.1.1, C_size R (k := 3) (by decide) ⟨k + 1, ?_⟩⟩)⟩
    have : (lsx S P LE LW 3).length = (eds S).length := (LE_len R).1
    rw [this, hx]
    exact C_steps_l (P0 := P) (w0 := w) hS (wx_ge R) (few_of_phi hS hphi k) hk (fun w' P' LE' LW' R' _ F' => h0 k hk hx w' P' LE' LW' R' F') k 0 w P LE LW _ _ (by omega) R Pk.rfl FrC.rfl (hc k hk hx).1 (hc k hk hx).2
  · obtain ⟨c1', c2', c3'⟩ := h1 hr
    exact ⟨nc, ns, Nat.le_refl _, Nat.le_refl _, ck_ok (fun z => ⟨c1', c2', c3'⟩) (fun z => absurd z hr)⟩
theorem B_edge {x1 x2 : Int32} {nc ns : Nat} {Q : Int32 → Wd → Prop} {X : String → Wd → Prop} (R : RC e0 S w q P LE LW) (hl : (eds S).length < 4096) (hc : 1 ≤ nc) (hs : 6 ≤ ns) (h1 : ¬ (∃ j, j < (eds S).length ∧ x1 = nI j) → X "java/util/NoSuchElementException" w)
    (h2 : (∃ j, j < (eds S).length ∧ x1 = nI j) → (x2.toInt < 0 ∨ 3 < x2.toInt) → X "java/lang/IllegalArgumentException" w)
    (h0 : ∀ j e, (eds S)[j]? = some e → x1 = nI j → (x2 = 0 → Q e.1 w) ∧ (x2 = 1 → Q (nI e.2.1) w) ∧ (x2 = 2 → Q (nI e.2.2.1) w) ∧ (x2 = 3 → Q (nI e.2.2.2) w)) : wp_Br_edge e0 mi q x1 x2 w nc ns Q X := by
  have hlen := (LE_len R).1
  have hl3 : (lsx S P LE LW 3).length = (eds S).length := hlen
  unfold wp_Br_edge wb_Br_edge_15
  rcases ix_cases x1 (n := (eds S).length) (by omega) with ⟨j, hj, hx⟩ | ⟨hn, hz⟩
  · refine ⟨fun z => absurd z (by rw [hx]; exact nI_pos (by omega)), fun _ => ⟨R.1.1, C_size R (k := 3) (by decide) ?_⟩⟩
    rw [hl3]
    have hjL : j < LE.length := by rw [List.length_map] at hlen; omega
    have hy : LE[j]? = some LE[j] := List.getElem?_eq_getElem hjL
    have hE := R.2.2.2.2.2.2.2.2.2.1 LE[j] (List.mem_of_getElem? hy)
    have hes : (eds S)[j]? = some LE[j].2 := by rw [← R.2.2.2.2.2.2.2.1, List.getElem?_map, hy]; rfl
    have hg : (lsx S P LE LW 3)[j]? = some LE[j].1 := by show (LE.map Prod.fst)[j]? = _; rw [List.getElem?_map, hy]; rfl
    obtain ⟨a0, a1, a2, a3⟩ := h0 j LE[j].2 hes hx
    refine ⟨fun _ => ⟨R.1.1, P 6 3, R.1.2.2.2.2 3 (by decide), (R.2.1.1 3 (by decide)).1, ?_⟩, fun z => absurd (by rw [hx]; exact nI_lt hj (by omega)) z⟩
    rw [hx]
    refine isK_get (R.2.1.1 3 (by decide)) hg ⟨fun a ha => (by cases ha; exact hE.1), fun z => ⟨LE[j].1, rfl, hE.1, ?_⟩, fun z => ⟨LE[j].1, rfl, hE.1, ?_⟩, fun z => ⟨LE[j].1, rfl, hE.1, ?_⟩, fun z => ⟨LE[j].1, rfl, hE.1, ?_⟩, fun z => ⟨hc, hs, h2 ⟨j, hj, hx⟩ z⟩⟩
    · rw [hE.2.1]; exact a0 z
    · rw [hE.2.2.1]; exact a1 z
    · rw [hE.2.2.2.1]; exact a2 z
    · rw [hE.2.2.2.2]; exact a3 z
  · refine ⟨fun _ => ⟨hc, hs, h1 hn⟩, fun z => ⟨R.1.1, C_size R (k := 3) (by decide) ?_⟩⟩
    rw [hl3]
    refine ⟨fun z2 => ?_, fun _ => ⟨hc, hs, h1 hn⟩⟩
    rcases hz with y | y
    · exact absurd y z
    · exact absurd z2 y
theorem B_order {x1 : Int32} {nc ns : Nat} {Q : Int32 → Wd → Prop} {X : String → Wd → Prop} (R : RC e0 S w q P LE LW) (hS : okS S) (hl : (gos S).length < 4096) (hc : 1 ≤ nc) (hs : 6 ≤ ns) (h1 : ¬ (∃ j, j < (gos S).length ∧ x1 = nI j) → X "java/util/NoSuchElementException" w)
    (h0 : ∀ j i, (gos S)[j]? = some i → x1 = nI j → Q (nI i) w) : wp_Br_order e0 mi q x1 w nc ns Q X := by
  have hl5 : (lsx S P LE LW 5).length = (gos S).length := by show ((gos S).map (P 1)).length = _; simp
  unfold wp_Br_order wb_Br_order_15
  rcases ix_cases x1 (n := (gos S).length) (by omega) with ⟨j, hj, hx⟩ | ⟨hn, hz⟩
  · refine ⟨fun z => absurd z (by rw [hx]; exact nI_pos (by omega)), fun _ => ⟨R.1.1, C_size R (k := 5) (by decide) ?_⟩⟩
    rw [hl5]
    have hy : (gos S)[j]? = some (gos S)[j] := List.getElem?_eq_getElem hj
    have hi := hS.2.2.2.2.2.2.1.2 _ (List.mem_of_getElem? hy)
    have h5 := R.2.2.2.2.1.1 _ hi.1 hi.2.1
    have hg : (lsx S P LE LW 5)[j]? = some (P 1 (gos S)[j]) := by show ((gos S).map (P 1))[j]? = _; rw [List.getElem?_map, hy]; rfl
    refine ⟨fun _ => ⟨R.1.1, P 6 5, R.1.2.2.2.2 5 (by decide), (R.2.1.1 5 (by decide)).1, ?_⟩, fun z => absurd (by rw [hx]; exact nI_lt hj (by omega)) z⟩
    rw [hx]
    refine isK_get (R.2.1.1 5 (by decide)) hg ⟨fun a ha => (by cases ha; exact h5.1), P 1 (gos S)[j], rfl, h5.1, ?_⟩
    rw [h5.2.1]
    exact h0 j _ hy hx
  · refine ⟨fun _ => ⟨hc, hs, h1 hn⟩, fun z => ⟨R.1.1, C_size R (k := 5) (by decide) ?_⟩⟩
    rw [hl5]
    refine ⟨fun z2 => ?_, fun _ => ⟨hc, hs, h1 hn⟩⟩
    rcases hz with y | y
    · exact absurd y z
    · exact absurd z2 y
theorem B_mean {nc ns : Nat} {Q : Int32 → Wd → Prop} {X : String → Wd → Prop} (R : RC e0 S w q P LE LW) (hl : (gos S).length < 4096) (hc : 1 ≤ nc) (hs : 6 ≤ ns) (h1 : (gos S).length = 0 → X "java/lang/ArithmeticException" w) (h0 : ¬ (gos S).length = 0 → Q (mm S 30 0 / nI (gos S).length) w) : wp_Br_mean e0 mi q w nc ns Q X := by
  have hl5 : (lsx S P LE LW 5).length = (gos S).length := by show ((gos S).map (P 1)).length = _; simp
  unfold wp_Br_mean
  refine ⟨R.1.1, C_size R (k := 5) (by decide) ?_⟩
  rw [hl5]
  have key : nI (gos S).length = 0 ↔ (gos S).length = 0 := ⟨fun z => (nI_eq (b := 0) (by omega) (by omega)).mp z, fun z => by rw [z]; rfl⟩
  refine ⟨fun z => ⟨R.1.1, z, ?_⟩, fun z => ⟨hc, hs, h1 (key.mp z)⟩⟩
  rw [R.1.2.2.2.1]
  exact h0 (fun y => z (key.mpr y))
theorem B_told {x1 x2 : Int32} {nc ns : Nat} {Q : Int32 → Wd → Prop} {X : String → Wd → Prop} (R : RC e0 S w q P LE LW) (hS : okS S) (hc : 2 ≤ nc) (hs : 12 ≤ ns) (h1 : ¬ (∃ i, 1 ≤ i ∧ i ≤ nT S ∧ x1 = nI i) → X "java/util/NoSuchElementException" w)
    (h2 : (∃ i, 1 ≤ i ∧ i ≤ nT S ∧ x1 = nI i) → (x2.toInt < 0 ∨ 6 < x2.toInt) → X "java/lang/IllegalArgumentException" w)
    (h0 : ∀ i, 1 ≤ i → i ≤ nT S → x1 = nI i → (x2 = 0 → Q (mm S 13 i) w) ∧ (x2 = 1 → Q (mm S 14 i) w) ∧ (x2 = 2 → Q (if mm S 13 i = 0 then mm S 15 i else -1) w) ∧ (x2 = 3 → Q (mm S 16 i) w) ∧ (x2 = 4 → ∀ v, (mm S 13 i = 0 → v = mm S 17 i) → Q v w) ∧ (x2 = 5 → Q (if mm S 13 i = 0 then mm S 19 i else -1) w) ∧ (x2 = 6 → Q (mm S 20 i) w)) : wp_Br_told e0 mi q x1 x2 w nc ns Q X := by
  unfold wp_Br_told
  refine ⟨R.1.1, 1, 6, by omega, by omega, C_fi R hS (fun z => ⟨Nat.le_refl _, Nat.le_refl _, h1 z⟩) (fun i i1 i2' hx => ⟨P 1 i, rfl, (R.2.2.2.2.1.1 i i1 i2').1, ?_⟩)⟩
  obtain ⟨q0, q1, q2, q3, q4, q5, q6⟩ := R.2.2.2.2.1.1 i i1 i2'
  obtain ⟨a0, a1, a2, a3, a4, a5, a6⟩ := h0 i i1 i2' hx
  obtain ⟨b, hb, hbe, -⟩ := hS.2.2.2.2.1 i i1 i2'
  have h3 := q5 b hb hbe
  have h3b := R.2.2.1.1 b hb
  have T : ∀ z0 : Int32, (z0 = 0 → ¬ mm S 13 i = 0) → (¬ z0 = 0 → mm S 13 i = 0) → wb_Br_told_18 e0 mi Q X q x1 x2 (some (P 1 i)) z0 w (nc - 1) (ns - 6) := fun z0 hz1 hz2 => by
    unfold wb_Br_told_18 wb_Br_told_87 wb_Br_told_101 wb_Br_told_125
    refine ⟨fun z => ⟨P 1 i, rfl, q0, ?_⟩, fun z => ⟨P 1 i, rfl, q0, ?_⟩, fun z => ⟨fun y => ?_, fun y => ⟨P 1 i, rfl, q0, ?_⟩⟩, fun z => ⟨P 1 i, rfl, q0, ?_⟩, fun z => ⟨P 1 i, rfl, q0, ?_⟩, fun z => ⟨fun y => ?_, fun y => ⟨P 1 i, rfl, q0, ?_⟩⟩, fun z => ⟨P 1 i, rfl, q0, ?_⟩, fun z => ⟨by omega, by omega, h2 ⟨i, i1, i2', hx⟩ z⟩⟩
    · rw [q4]; exact a0 z
    · rw [h3]
      refine ⟨fun _ => ⟨P 0 b, rfl, h3b.1, ?_⟩, fun y => absurd y (by simp)⟩
      rw [h3b.2.1, ← hbe]; exact a1 z
    · have := a2 z; rw [if_neg (hz1 y)] at this; exact this
    · have := a2 z; rw [if_pos (hz2 y)] at this; rw [(q6 (hz2 y)).1]; exact this
    · rw [q2]; exact a3 z
    · exact a4 z _ (fun y => (q6 y).2.2.1)
    · have := a5 z; rw [if_neg (hz1 y)] at this; exact this
    · have := a5 z; rw [if_pos (hz2 y)] at this; rw [(q6 (hz2 y)).2.1]; exact this
    · rw [q3]; exact a6 z
  rw [q4]
  exact ⟨fun z => T 0 (fun _ => z) (fun y => absurd rfl y), fun z => T 1 (fun y => absurd y (by decide)) (fun _ => z)⟩
end CL
