/-! THE REFERENCE: what is read is told -/
theorem RM_wset {S : St} {w : Wd} {m : Nat} {A : Nat → Nat} (h : RM S w m A) (j : Nat) (e : Ed) (n : Nat) : RM (uw S ((wts S).set j e) n) (sJ w (A 26) j (pk e)) m A := by
  obtain ⟨h1, h2, ⟨b1, b2, b3, b4, b5, b6⟩, h4, h5, h6, h7, h8⟩ := h
  refine ⟨h1, h2, ⟨b1, b2, b3, ?_, b5, b6⟩, h4, h5, fun x y hx => ?_, fun x y hx => ?_, h8⟩
  · rw [wts_uw, List.length_set]; exact b4
  · rw [wts_uw] at hx
    rw [pJ_J]
    by_cases hxj : x = j
    · rw [if_pos ⟨rfl, hxj⟩]
      subst hxj
      have hlt := (List.getElem?_eq_some_iff.mp hx).1
      rw [List.length_set] at hlt
      rw [List.getElem?_set_self hlt] at hx
      cases hx
      rfl
    · rw [if_neg (fun z => hxj z.2)]
      rw [List.getElem?_set_ne (Ne.symm hxj)] at hx
      exact h6 x y hx
  · rw [pJ_J, if_neg (fun z => isM_nn h1 (j := 28) (k := 26) (by decide) (by decide) (by decide) z.1)]
    exact h7 x y hx
theorem RM_wcut {S : St} {w : Wd} {m : Nat} {A : Nat → Nat} (h : RM S w m A) (j n : Nat) (hj : j ≤ (wts S).length) : RM (uw S ((wts S).take j) n) (sI w m 25 (nI j)) m A := by
  obtain ⟨h1, ⟨a1, a2, a3⟩, ⟨b1, b2, b3, b4, b5, b6⟩, h4, h5, h6, h7, h8⟩ := h
  have ns : ∀ s, s ≠ 25 → wI (sI w m 25 (nI j)) m s = wI w m s := fun s hs => by rw [pI_I, if_neg (fun z => hs z.2)]
  have no : ∀ k, 0 < mKd k → ∀ s, wI (sI w m 25 (nI j)) (A k) s = wI w (A k) s := fun k hk s => by rw [pI_I, if_neg (fun z => isM_ne h1 hk z.1)]
  refine ⟨isM_st h1 _ _ _, ⟨?_, ?_, ?_⟩, ⟨?_, ?_, ?_, ?_, ?_, ?_⟩, fun k hk s hs => ?_, fun c hc => ⟨?_, fun x y hx => ?_⟩, fun x y hx => ?_, h7, fun x y hx => ?_⟩
  · rw [ns 1 (by decide)]; exact a1
  · rw [ns 2 (by decide)]; exact a2
  · rw [ns 30 (by decide)]; exact a3
  · rw [ns 3 (by decide)]; exact b1
  · rw [ns 12 (by decide)]; exact b2
  · rw [ns 21 (by decide)]; exact b3
  · rw [pI_I, if_pos ⟨rfl, rfl⟩, wts_uw, List.length_take, Nat.min_eq_left hj]
  · rw [ns 27 (by decide)]; exact b5
  · rw [ns 29 (by decide)]; exact b6
  · rw [no k (isInt_kd hk).1]; exact h4 k hk s hs
  · rw [no 10 (by decide)]; exact (h5 c hc).1
  · rw [no 11 (by decide)]; exact (h5 c hc).2 x y hx
  · rw [wts_uw] at hx
    have hlt := (List.getElem?_eq_some_iff.mp hx).1
    rw [List.getElem?_take_of_lt (by rw [List.length_take] at hlt; omega)] at hx
    exact h6 x y hx
  · rw [no 31 (by decide)]; exact h8 x y hx
theorem drop_set0 {α : Type} {l : List α} {n : Nat} (h : n < l.length) (x : α) : (l.drop n).set 0 x = x :: l.drop (n + 1) := by
  rw [List.drop_eq_getElem_cons h]; rfl
def dueF (T : Int32) (e : Ed) : Bool := decide (e.1 = T)
def kepF (T : Int32) (e : Ed) : Bool := decide (¬ e.1 = T)
section MO
variable {e0 mi m : Nat} {A : Nat → Nat}
theorem M_read_l {S : St} {Q : Wd → Prop} {w0 : Wd} (hW : ∀ e ∈ wts S, e.2.1 = 0 ∧ e.2.2.1 ≤ 60 ∧ e.2.2.2 < 8) (hl : (eds S).length + (wts S).length < 3000) (hQ : ∀ w', RM (readS S) w' m A → FM m A w0 w' → Q w') : ∀ (n k : Nat) (w : Wd), k + n = (wts S).length →
    RM (uw (ue S (eds S ++ ((wts S).take k).filter (dueF (mm S 1 0)))) (((wts S).take k).filter (kepF (mm S 1 0)) ++ (wts S).drop (((wts S).take k).filter (kepF (mm S 1 0))).length) (wX S)) w m A → FM m A w0 w → wb_Mo_readDue_4 e0 mi Q (n + 1) m (nI (((wts S).take k).filter (kepF (mm S 1 0))).length) (nI k) w := by
  intro n
  induction n with
  | zero =>
    intro k w hk R F
    have hkk : k = (wts S).length := by omega
    subst hkk
    rw [List.take_length] at R ⊢
    have hkl : ((wts S).filter (kepF (mm S 1 0))).length ≤ (wts S).length := List.length_filter_le _ _
    have l25 : wI w m 25 = nI (wts S).length := by
      have := R.2.2.1.2.2.2.1
      rw [this, wts_uw, List.length_append, List.length_drop]
      congr 1
      omega
    unfold wb_Mo_readDue_4
    rw [l25]
    refine ⟨R.1.1, fun _ => ?_, fun z => absurd (nI_le (Nat.le_refl _) (by omega)) z⟩
    have R2 := RM_wcut R ((wts S).filter (kepF (mm S 1 0))).length (wX S) (by rw [wts_uw, List.length_append]; omega)
    rw [wts_uw, List.take_left] at R2
    exact hQ _ R2 (F.sc (by decide) _)
  | succ n ih =>
    intro k w hk R F
    have hkl0 : k < (wts S).length := by omega
    obtain ⟨e, he⟩ : ∃ e, (wts S)[k]? = some e := ⟨(wts S)[k], List.getElem?_eq_getElem hkl0⟩
    have hem := hW e (List.mem_of_getElem? he)
    have htk : (wts S).take (k + 1) = (wts S).take k ++ [e] := by rw [List.take_add_one, he]; rfl
    have hkl : (((wts S).take k).filter (kepF (mm S 1 0))).length ≤ k := by
      refine Nat.le_trans (List.length_filter_le _ _) ?_
      rw [List.length_take]; omega
    have l25 : wI w m 25 = nI (wts S).length := by
      have := R.2.2.1.2.2.2.1
      rw [this, wts_uw, List.length_append, List.length_drop]
      congr 1
      omega
    have v1 : wI w m 1 = mm S 1 0 := R.2.1.1
    have hLk : (((wts S).take k).filter (kepF (mm S 1 0)) ++ (wts S).drop (((wts S).take k).filter (kepF (mm S 1 0))).length)[k]? = some e := by
      rw [List.getElem?_append_right hkl, List.getElem?_drop]
      rw [show (((wts S).take k).filter (kepF (mm S 1 0))).length + (k - (((wts S).take k).filter (kepF (mm S 1 0))).length) = k by omega]
      exact he
    have vk : wJ w (A 26) k = pk e := R.2.2.2.2.2.1 k e hLk
    obtain ⟨t, kd, i, s⟩ := e
    obtain ⟨hkd, hi60, hs8⟩ := hem
    replace hkd : kd = 0 := hkd
    subst hkd
    unfold wb_Mo_readDue_4
    rw [l25]
    refine ⟨R.1.1, fun z => absurd z (nI_ge hkl0 (by omega)), fun _ => ldA R.1 26 (n := 3000) rfl (by decide) rfl rfl (by omega) ?_⟩
    rw [nI_clamp (n := k) (by omega), vk, pk_time t (by decide) hi60 hs8, v1]
    refine ⟨fun z => ⟨vA R.1 26 (n := 3000) (by decide) rfl rfl (by omega), vA R.1 26 (n := 3000) (by decide) rfl rfl (by omega), fun i9 e9 => ?_⟩, fun z => ⟨vA R.1 26 (n := 3000) (by decide) rfl rfl (by omega), vA R.1 26 (n := 3000) (by decide) rfl rfl (by omega), ?_⟩⟩
    · rw [nI_1] at e9
      subst e9
      rw [nI_clamp (by omega)]
      unfold wb_Mo_readDue_77
      intro i1 e1
      rw [e1, nI_1]
      have R2 := RM_wset R (((wts S).take k).filter (kepF (mm S 1 0))).length (t, 0, i, s) (wX S)
      have hkp : kepF (mm S 1 0) (t, 0, i, s) = true := by unfold kepF; exact decide_eq_true z
      have hdp : dueF (mm S 1 0) (t, 0, i, s) = false := by unfold dueF; exact decide_eq_false z
      have hf : ((wts S).take (k + 1)).filter (kepF (mm S 1 0)) = ((wts S).take k).filter (kepF (mm S 1 0)) ++ [(t, 0, i, s)] := by
        rw [htk, List.filter_append]; congr 1; simp [hkp]
      have hg : ((wts S).take (k + 1)).filter (dueF (mm S 1 0)) = ((wts S).take k).filter (dueF (mm S 1 0)) := by
        rw [htk, List.filter_append]; simp [hdp]
      have := ih (k + 1) (sJ w (A 26) (((wts S).take k).filter (kepF (mm S 1 0))).length (pk (t, 0, i, s))) (by omega) ?_ (F.arJ (by decide) _ _)
      · rw [hf] at this
        simpa using this
      · rw [hf, hg]
        rw [wts_uw] at R2
        have hset : (((wts S).take k).filter (kepF (mm S 1 0)) ++ (wts S).drop (((wts S).take k).filter (kepF (mm S 1 0))).length).set (((wts S).take k).filter (kepF (mm S 1 0))).length (t, 0, i, s) = (((wts S).take k).filter (kepF (mm S 1 0)) ++ [(t, 0, i, s)]) ++ (wts S).drop (((wts S).take k).filter (kepF (mm S 1 0)) ++ [(t, 0, i, s)]).length := by
          rw [List.set_append_right _ _ (Nat.le_refl _), Nat.sub_self, List.append_assoc]
          congr 1
          rw [drop_set0 (show (((wts S).take k).filter (kepF (mm S 1 0))).length < (wts S).length by omega), List.length_append]
          rfl
        rw [hset] at R2
        exact R2
    · rw [pk_item8 t (by decide) hi60 hs8, pk_where t (by decide) hi60 hs8]
      show wp_Mo_tell e0 mi m (nI 0) (nI i) (nI s) w _
      refine M_tell R ?_ (fun w13 R13 F13 => ?_)
      · rw [eds_uw, eds_ue, List.length_append]
        have := List.length_filter_le (dueF (mm S 1 0)) ((wts S).take k)
        rw [List.length_take] at this
        omega
      · unfold wb_Mo_readDue_77
        intro i1 e1
        rw [e1, nI_1]
        have hkp : kepF (mm S 1 0) (t, 0, i, s) = false := by unfold kepF; exact decide_eq_false (fun q => q z)
        have hdp : dueF (mm S 1 0) (t, 0, i, s) = true := by unfold dueF; exact decide_eq_true z
        have hf : ((wts S).take (k + 1)).filter (kepF (mm S 1 0)) = ((wts S).take k).filter (kepF (mm S 1 0)) := by
          rw [htk, List.filter_append]; simp [hkp]
        have hg : ((wts S).take (k + 1)).filter (dueF (mm S 1 0)) = ((wts S).take k).filter (dueF (mm S 1 0)) ++ [(t, 0, i, s)] := by
          rw [htk, List.filter_append]; congr 1; simp [hdp]
        have := ih (k + 1) w13 (by omega) ?_ (F.trans F13)
        · rw [hf] at this; exact this
        · rw [hf, hg, ← List.append_assoc]
          have ez : t = mm S 1 0 := z
          subst ez
          exact R13
theorem M_read {S : St} {Q : Wd → Prop} {w : Wd} (h : RM S w m A) (hW : ∀ e ∈ wts S, e.2.1 = 0 ∧ e.2.2.1 ≤ 60 ∧ e.2.2.2 < 8) (hl : (eds S).length + (wts S).length < 3000) (hQ : ∀ w', RM (readS S) w' m A → FM m A w w' → Q w') : wp_Mo_readDue e0 mi m w Q := by
  unfold wp_Mo_readDue
  refine ⟨(wts S).length + 1, ?_⟩
  have := M_read_l (e0 := e0) (mi := mi) (Q := Q) (w0 := w) hW hl hQ (wts S).length 0 w (by omega) ?_ FM.rfl
  · exact this
  · rw [List.take_zero, List.filter_nil, List.filter_nil, List.append_nil, List.nil_append, List.length_nil, List.drop_zero]
    exact h
end MO
