/-! ONE CALL OF BOTH: take -/
theorem L_take {e0 mi c q m r nc ns : Nat} {w : Wd} {x1 : Int32} {Q' : Nat → Nat → Int32 → Wd → Prop} (J : Jn e0 c w q m r nc ns) (hc : c < 512)
    (hQ : ∀ k8 k9 i w7, bw_is w7 m 6 → (∀ K : Wd → Prop, (∀ w18, Aft e0 c i w18 q m r (nc - k8) (ns - k9) → K w18) → wp_Mo_take e0 mi m x1 w7 K) → Q' k8 k9 i w7) : ∃ k8 k9, k8 ≤ nc ∧ k9 ≤ ns ∧ wp_La_take e0 mi (some q) x1 w k8 k9 (Q' k8 k9) := by
  obtain ⟨S, A, P, LE, LW, R, M, hS, h9, hp, hr, hA, n1, n2⟩ := J
  have few := us_few R hS (by omega)
  have t60 := hS.1.2.1
  have inj : ∀ {i i2 : Nat}, i ≤ nT S → i2 ≤ nT S → x1 = nI i → x1 = nI i2 → i2 = i := fun hb hb2 e1 e2 => ((nI_eq (by omega) (by omega)).mp (e1.symm.trans e2)).symm
  have on : ∀ {i b p : Nat}, (rr S b)[p]? = some i → 1 ≤ i ∧ i ≤ nT S ∧ mm S 13 i = 0 := fun h => ⟨(hS.2.2.1 _ _ (List.mem_of_getElem? h)).1, (hS.2.2.1 _ _ (List.mem_of_getElem? h)).2.1, (hS.2.2.1 _ _ (List.mem_of_getElem? h)).2.2.1⟩
  have X : ∀ (i : Int32) {w'}, PM m A S i w w' → Aft e0 c i w' q m r (nc - 6) (ns - 60) := fun i w' p => Jn_mk R hS h9 M.1 p (by omega) hp hr hA n1 n2 (by omega) (by omega)
  refine ⟨6, 60, by omega, by omega, q, rfl, R.1.1, 6, 60, Nat.le_refl _, Nat.le_refl _, B_take R hS (by omega) (by omega)
    (fun z => Or.inl ⟨rfl, hQ 6 60 1 w M.1.1 (fun K hK => N_take M hS (fun _ w' p => hK w' (X 1 p)) (fun i a b hx => absurd ⟨i, a, b, hx⟩ z) (fun i b p h hx => absurd ⟨i, (on h).1, (on h).2.1, hx⟩ z))⟩)
    (fun i i1 i2' hx z3 => Or.inr ⟨rfl, hQ 6 60 2 w M.1.1 (fun K hK => N_take M hS (fun z2 => absurd ⟨i, i1, i2', hx⟩ z2) (fun _ _ _ _ _ w' p => hK w' (X 2 p)) (fun j b p hj hx2 => absurd (inj i2' (on hj).2.1 hx hx2 ▸ (on hj).2.2) z3))⟩)
    (fun i b p hi hx w7 R7 F7 => ?_)⟩
  have M7 := RM_frC M F7
  have r7 := (res_frC hr F7).1
  have u := us_leave S b 13 i ((rr S b).eraseIdx p) 2
  refine hQ 6 60 0 w7 M7.1.1 (fun K hK => N_take M7 hS (fun z2 => absurd ⟨i, (on hi).1, (on hi).2.1, hx⟩ z2) (fun j _ j2 hx2 z5 => absurd (inj j2 (on hi).2.1 hx2 hx ▸ (on hi).2.2) z5) (fun j b2 p2 hj hx2 w' p => hK w' ?_))
  have e := inj (on hi).2.1 (on hj).2.1 hx hx2
  subst e
  obtain ⟨e1, e2⟩ := pos_uniq hS hi hj
  subst e1 e2
  exact Jn_mk R7 (ok_leave hS hi (by decide)) (n9_leave h9 _ _ _ _) M7.1 p (Nat.le_trans (phi_leave _ (by decide) (on hi).1 (on hi).2.1) (by omega)) hp r7 hA n1 n2 (by omega) (by omega)
