/-! ONE CALL OF BOTH: slip -/
theorem pos_uniq {S : St} (hS : okS S) {b c p p2 i : Nat} (h1 : (rr S b)[p]? = some i) (h2 : (rr S c)[p2]? = some i) : c = b ∧ p2 = p := by
  have e := ok_row hS (List.mem_of_getElem? h2) (List.mem_of_getElem? h1)
  subst e
  refine ⟨rfl, ?_⟩
  rcases Nat.lt_trichotomy p2 p with z | z | z
  · exact absurd h2 (nodup_first (hS.2.2.2.1 c) h1 p2 z)
  · exact z
  · exact absurd h1 (nodup_first (hS.2.2.2.1 c) h2 p z)
theorem L_slip {e0 mi c q m r nc ns : Nat} {w : Wd} {x1 x2 : Int32} {Q' : Nat → Nat → Int32 → Wd → Prop} (J : Jn e0 c w q m r nc ns) (hc : c < 512)
    (hQ : ∀ k8 k9 i w7, bw_is w7 m 6 → (∀ K : Int32 → Wd → Prop, (∀ v w18, AftV e0 c i v w18 q m r (nc - k8) (ns - k9) → K v w18) → wp_Mo_slip e0 mi m x1 x2 w7 K) → Q' k8 k9 i w7) : ∃ k8 k9, k8 ≤ nc ∧ k9 ≤ ns ∧ wp_La_slip e0 mi (some q) x1 x2 (some r) w k8 k9 (Q' k8 k9) := by
  obtain ⟨S, A, P, LE, LW, R, M, hS, h9, hp, hr, hA, n1, n2⟩ := J
  have few := us_few R hS (by omega)
  have t60 := hS.1.2.1
  have inj : ∀ {i i2 : Nat}, i ≤ nT S → i2 ≤ nT S → x1 = nI i → x1 = nI i2 → i2 = i := fun hb hb2 e1 e2 => ((nI_eq (by omega) (by omega)).mp (e1.symm.trans e2)).symm
  have on : ∀ {i b p : Nat}, (rr S b)[p]? = some i → 1 ≤ i ∧ i ≤ nT S ∧ mm S 13 i = 0 := fun h => ⟨(hS.2.2.1 _ _ (List.mem_of_getElem? h)).1, (hS.2.2.1 _ _ (List.mem_of_getElem? h)).2.1, (hS.2.2.1 _ _ (List.mem_of_getElem? h)).2.2.1⟩
  have X : ∀ (i : Int32) {v : Int32} {w'}, ¬ i = 0 → PM m A S i w w' → AftV e0 c i v w' q m r (nc - 6) (ns - 60) := fun i v w' hi p => Jx_mk hi R hS h9 M.1 hr hA p hp n1 n2 (by omega) (by omega)
  refine ⟨6, 60, by omega, by omega, q, rfl, R.1.1, 6, 60, Nat.le_refl _, Nat.le_refl _, B_slip R hS (by omega) (by omega)
    (fun z => Or.inl ⟨rfl, hQ 6 60 1 w M.1.1 (fun K hK => N_slip M hS (fun _ w' p => hK _ w' (X 1 (by decide) p)) (fun y => absurd y z) (fun i a b hx => absurd ⟨i, a, b, hx⟩ z) (fun i b p h hx => absurd ⟨i, (on h).1, (on h).2.1, hx⟩ z) (fun i b p h hx => absurd ⟨i, (on h).1, (on h).2.1, hx⟩ z))⟩)
    (fun y z => Or.inr (Or.inl ⟨rfl, hQ 6 60 2 w M.1.1 (fun K hK => N_slip M hS (fun z2 => absurd y z2) (fun _ _ w' p => hK _ w' (X 2 (by decide) p)) (fun _ _ _ _ z2 => absurd z2 z) (fun _ _ _ _ _ z2 => absurd z2 z) (fun _ _ _ _ _ z2 => absurd z2 z))⟩))
    (fun i i1 i2' hx z z3 => Or.inr (Or.inr ⟨rfl, hQ 6 60 3 w M.1.1 (fun K hK => N_slip M hS (fun z2 => absurd ⟨i, i1, i2', hx⟩ z2) (fun _ z2 => absurd z z2) (fun _ _ _ _ _ _ w' p => hK _ w' (X 3 (by decide) p)) (fun j b p hj hx2 _ _ w' p => hK _ w' (X 3 (by decide) p)) (fun j b p hj hx2 => absurd (inj i2' (on hj).2.1 hx hx2 ▸ (on hj).2.2) z3))⟩))
    (fun i b p hi hx z z3 => Or.inr (Or.inr ⟨rfl, hQ 6 60 3 w M.1.1 (fun K hK => N_slip M hS (fun z2 => absurd ⟨i, (on hi).1, (on hi).2.1, hx⟩ z2) (fun _ z2 => absurd z z2) (fun _ _ _ _ _ _ w' p => hK _ w' (X 3 (by decide) p)) (fun _ _ _ _ _ _ _ w' p => hK _ w' (X 3 (by decide) p)) (fun j b2 p2 hj hx2 _ a1 a2 => ?_))⟩))
    (fun i b p hi hx z a1 a2 w7 R7 F7 => ?_)⟩
  · have e := inj (on hi).2.1 (on hj).2.1 hx hx2
    subst e
    obtain ⟨e1, e2⟩ := pos_uniq hS hi hj
    subst e1 e2
    exact absurd ⟨a1, a2⟩ z3
  · have M7 := RM_frC M F7
    have r7 := (res_frC hr F7).1
    have u := us_um S 15 i (mm S 15 i - x2)
    refine ⟨r, rfl, r7.1, by rw [r7.2]; unfold vp_in; decide, hQ 6 60 0 _ M7.1.1 (fun K hK => N_slip (RM_row M7 hA) hS (fun z2 => absurd ⟨i, (on hi).1, (on hi).2.1, hx⟩ z2) (fun _ z2 => absurd z z2) (fun j _ j2 hx2 _ z5 => absurd (inj j2 (on hi).2.1 hx2 hx ▸ (on hi).2.2) z5) (fun j b2 p2 hj hx2 _ z5 => ?_) (fun j b2 p2 hj hx2 _ _ _ w' p => hK _ w' ?_))⟩
    · have e := inj (on hi).2.1 (on hj).2.1 hx hx2
      subst e
      obtain ⟨e1, e2⟩ := pos_uniq hS hi hj
      subst e1 e2
      exact absurd ⟨a1, a2⟩ z5
    · have e := inj (on hi).2.1 (on hj).2.1 hx hx2
      subst e
      exact Jv_mk R7 (ok_um hS (by unfold okSlot; decide) _ _) (n9_um h9 (by decide) _ _) M7.1 r7 hA p (phi_slip (on hi).1 (by have := (on hi).2.1; omega) _) hp n1 n2 (by omega) (by omega)
