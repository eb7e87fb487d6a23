/-! THE CLASS: what is read is told -/
theorem Pn_self (P : Nat → Nat → Nat) (k : Nat) : Pn P k (P 7 k) = P := by
  funext a j
  unfold Pn
  by_cases h : a = 7 ∧ j = k
  · rw [if_pos h, h.1, h.2]
  · rw [if_neg h]
theorem ok_lists {S : St} (h : okS S) {E L : List Ed} {n : Nat} (hE : ∀ e ∈ E, e.2.1 < 3 ∧ e.2.2.1 ≤ 60 ∧ e.2.2.2 < 8) (hL : ∀ e ∈ L, e.2.1 = 0 ∧ e.2.2.1 ≤ 60 ∧ e.2.2.2 < 8) : okS (uw (ue S E) L n) := by
  obtain ⟨h1, h2, h3, h4, h5, h6, h7, h8, h9, h10⟩ := h
  exact ⟨h1, h2, h3, h4, h5, h6, h7, h8, hL, hE⟩
section CL
variable {e0 mi q : Nat} {P : Nat → Nat → Nat} {S : St} {w : Wd} {LE LW : List (Nat × Ed)}
theorem C_waitSet {j a : Nat} {e : Ed} {y : Nat × Ed} {Q : Option Nat → Wd → Prop} (R : RC e0 S w q P LE LW) (hS : okS S) (ha : edAt w a e) (hj : LW[j]? = some y)
    (hQ : ∀ w', RC e0 (uw S ((LW.set j (a, e)).map Prod.snd) (wX S)) w' q P LE (LW.set j (a, e)) → FrC w w' → Q (some y.1) w') : wp_Al_set e0 mi (P 6 4) (nI j) (some a) w Q := by
  have hK : isK e0 w (P 6 4) (P 7 4) (wX S) (LW.map Prod.fst) := R.2.1.1 4 (by decide)
  have hjf : (LW.map Prod.fst)[j]? = some y.1 := by rw [List.getElem?_map, hj]; rfl
  have hlt := (List.getElem?_eq_some_iff.mp hj).1
  have hn : 0 < wX S := by have := hK.2.2.1; simp at this; omega
  refine isK_set hK ⟨1, ha.1, by decide, by decide⟩ hjf (fun w' hKn K hL => ?_)
  have K' : Kp (fun x => x = P 6 4 ∨ (0 < lmx S 4 ∧ x = P 7 4)) w w' := K.mono (fun b _ z => Or.inr ⟨hn, z⟩)
  have kN : ∀ b, bw_is w b 1 → ¬ b = P 7 4 := fun b hb => is_ne hb (hK.2.2.2.2.2.2 hn).2.1 (by decide)
  have h8 : c8 (uw S ((LW.set j (a, e)).map Prod.snd) (wX S)) w' LE (LW.set j (a, e)) := by
    obtain ⟨g1, g2, g3, g4⟩ := R.2.2.2.2.2.2.2
    refine ⟨g1, rfl, fun x hx => edAt_kp (g3 x hx) K kN, fun x hx => ?_⟩
    rcases List.mem_or_eq_of_mem_set hx with z | z
    · exact edAt_kp (g4 x z) K kN
    · rw [z]; exact edAt_kp ha K kN
  have := RC_list (S' := uw S ((LW.set j (a, e)).map Prod.snd) (wX S)) (LE' := LE) (LW' := LW.set j (a, e)) (k := 4) R hS (by decide) hKn (Or.inl ⟨rfl, hn⟩) K' rfl rfl rfl rfl rfl (fun j hj hjk => ?_) rfl (fun j hj hjk => ?_) ?_ h8
  · rw [Pn_self] at this
    exact hQ w' this.1 this.2
  · match j, hj, hjk with
    | 0, _, _ => rfl
    | 1, _, _ => rfl
    | 2, _, _ => rfl
    | 3, _, _ => rfl
    | 4, _, h => exact absurd rfl h
    | 5, _, _ => rfl
  · match j, hj, hjk with
    | 0, _, _ => rfl
    | 1, _, _ => rfl
    | 2, _, _ => rfl
    | 3, _, _ => rfl
    | 4, _, h => exact absurd rfl h
    | 5, _, _ => rfl
  · show (LW.set j (a, e)).map Prod.fst = (LW.map Prod.fst).set j a
    rw [List.map_set]
theorem C_waitPop {x : Nat × Ed} {Q : Option Nat → Wd → Prop} (R : RC e0 S w q P LE (LW ++ [x])) (hS : okS S)
    (hQ : ∀ w', RC e0 (uw S (LW.map Prod.snd) (wX S)) w' q P LE LW → FrC w w' → Q (some x.1) w') : wp_Al_remove e0 mi (P 6 4) (nI LW.length) w Q := by
  have hK : isK e0 w (P 6 4) (P 7 4) (wX S) ((LW ++ [x]).map Prod.fst) := R.2.1.1 4 (by decide)
  have em : (LW ++ [x]).map Prod.fst = LW.map Prod.fst ++ [x.1] := by simp
  rw [em] at hK
  have hn : 0 < wX S := by have := hK.2.2.1; simp at this; omega
  have hlen : LW.length = (LW.map Prod.fst).length := by simp
  rw [hlen]
  refine isK_pop hK (fun w' hKn K hL => ?_)
  have K' : Kp (fun x => x = P 6 4 ∨ (0 < lmx S 4 ∧ x = P 7 4)) w w' := K.mono (fun b _ z => by
    rcases z with z | z
    · exact Or.inl z
    · exact Or.inr ⟨hn, z⟩)
  have kN : ∀ b, bw_is w b 1 → ¬ (b = P 6 4 ∨ b = P 7 4) := fun b hb z => by
    rcases z with z | z
    · exact absurd z (is_ne hb hK.1 (by decide))
    · exact absurd z (is_ne hb (hK.2.2.2.2.2.2 hn).2.1 (by decide))
  have h8 : c8 (uw S (LW.map Prod.snd) (wX S)) w' LE LW := by
    obtain ⟨g1, g2, g3, g4⟩ := R.2.2.2.2.2.2.2
    exact ⟨g1, rfl, fun y hy => edAt_kp (g3 y hy) K kN, fun y hy => edAt_kp (g4 y (List.mem_append_left _ hy)) K kN⟩
  have := RC_list (S' := uw S (LW.map Prod.snd) (wX S)) (LE' := LE) (LW' := LW) (k := 4) R hS (by decide) hKn (Or.inl ⟨rfl, hn⟩) K' rfl rfl rfl rfl rfl (fun j hj hjk => ?_) rfl (fun j hj hjk => ?_) rfl h8
  · rw [Pn_self] at this
    exact hQ w' this.1 this.2
  · match j, hj, hjk with
    | 0, _, _ => rfl
    | 1, _, _ => rfl
    | 2, _, _ => rfl
    | 3, _, _ => rfl
    | 4, _, h => exact absurd rfl h
    | 5, _, _ => rfl
  · match j, hj, hjk with
    | 0, _, _ => rfl
    | 1, _, _ => rfl
    | 2, _, _ => rfl
    | 3, _, _ => rfl
    | 4, _, h => exact absurd rfl h
    | 5, _, _ => rfl
theorem nI_m1_lt {m : Nat} (h : m < 2 ^ 31) : nI m + (-1) < nI m := by
  rcases Nat.eq_zero_or_pos m with z | z
  · subst z; decide
  · have : m = (m - 1) + 1 := by omega
    rw [this, pk_m1]
    exact nI_lt (by omega) (by omega)
/-- the rest of the list is taken off, from its end -/
theorem C_pops {K : List (Nat × Ed)} {x1 : Int32} {w0 : Wd} {nc ns : Nat} {Q : Wd → Prop} (hS : okS S) (hE : LE.map Prod.snd = eds S) (hK : ∀ x ∈ K, x.2.2.1 = 0 ∧ x.2.2.2.1 ≤ 60 ∧ x.2.2.2.2 < 8) (hlen : K.length < 4096) (hQ : ∀ w', RC e0 (uw S (K.map Prod.snd) (wX S)) w' q P LE K → FrC w0 w' → Q w') :
    ∀ (n : Nat) (T : List (Nat × Ed)) (w : Wd), T.length = n → n < 4096 → (∀ x ∈ T, x.2.2.1 = 0 ∧ x.2.2.2.1 ≤ 60 ∧ x.2.2.2.2 < 8) → RC e0 (uw S ((K ++ T).map Prod.snd) (wX S)) w q P LE (K ++ T) → FrC w0 w → wb_Br_tellReads_75 e0 mi Q (n + 1) q x1 (nI K.length) (nI (K.length + n) + (-1)) w nc ns := by
  intro n
  induction n with
  | zero =>
    intro T w hT hn hT2 R F
    have : T = [] := List.length_eq_zero_iff.mp hT
    subst this
    rw [List.append_nil] at R
    unfold wb_Br_tellReads_75
    exact ⟨fun _ => hQ w R F, fun z => absurd (nI_m1_lt (by omega)) z⟩
  | succ n ih =>
    intro T w hT hn hT2 R F
    obtain ⟨T', x, rfl⟩ : ∃ T' x, T = T' ++ [x] := by
      have hne : T ≠ [] := fun z => by rw [z] at hT; simp at hT
      exact ⟨T.dropLast, T.getLast hne, (List.dropLast_concat_getLast hne).symm⟩
    have hT' : T'.length = n := by simp at hT; exact hT
    rw [← List.append_assoc] at R
    have okr : okS (uw S (((K ++ T') ++ [x]).map Prod.snd) (wX S)) := by
      have := ok_lists (S := S) (E := eds S) (L := ((K ++ T') ++ [x]).map Prod.snd) (n := wX S) hS hS.2.2.2.2.2.2.2.2.2 (fun e he => by
        obtain ⟨y, hy, rfl⟩ := List.mem_map.mp he
        rw [List.append_assoc] at hy
        rcases List.mem_append.mp hy with z | z
        · exact hK y z
        · exact hT2 y z)
      exact this
    unfold wb_Br_tellReads_75
    rw [show K.length + (n + 1) = (K.length + n) + 1 by omega, pk_m1]
    refine ⟨fun z => absurd z (nI_nlt (by omega) (by omega)), fun _ => ⟨R.1.1, P 6 4, R.1.2.2.2.2 4 (by decide), (R.2.1.1 4 (by decide)).1, ?_⟩⟩
    have hl2 : K.length + n = (K ++ T').length := by simp [hT']
    rw [hl2]
    refine C_waitPop R okr (fun w' R' F' i12 e12 => ?_)
    rw [e12, ← hl2]
    exact ih T' w' hT' (by omega) (fun y hy => hT2 y (List.mem_append_left _ hy)) R' (F.trans F')
end CL
