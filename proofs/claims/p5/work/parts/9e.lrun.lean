/-! ONE CALL OF BOTH: run -/
theorem L_run {e0 mi c q m r nc ns : Nat} {w : Wd} {x1 x2 x3 : Int32} {Q' : Nat → Nat → Int32 → Wd → Prop} (J : Jn e0 c w q m r nc ns) (hc : c < 512) (hb3 : bw_b x3)
    (hQ : ∀ k8 k9 i w7, bw_is w7 m 6 → (∀ K : Wd → Prop, (∀ w18, Aft e0 c i w18 q m r (nc - k8) (ns - k9) → K w18) → wp_Mo_run e0 mi m x1 x2 x3 w7 K) → Q' k8 k9 i w7) : ∃ k8 k9, k8 ≤ nc ∧ k9 ≤ ns ∧ wp_La_run e0 mi (some q) x1 x2 x3 w k8 k9 (Q' k8 k9) := by
  obtain ⟨S, A, P, LE, LW, R, M, hS, h9, hp, hr, hA, n1, n2⟩ := J
  have few := us_few R hS (by omega)
  have b8 := hS.1.1
  have inj : ∀ {b b2 : Nat}, b < nB S → b2 < nB S → x1 = nI b → x1 = nI b2 → b2 = b := fun hb hb2 e1 e2 => ((nI_eq (by omega) (by omega)).mp (e1.symm.trans e2)).symm
  have X : ∀ (i : Int32) {w'}, PM m A S i w w' → Aft e0 c i w' q m r (nc - 6) (ns - 60) := fun i w' p => Jn_mk R hS h9 M.1 p (by omega) hp hr hA n1 n2 (by omega) (by omega)
  refine ⟨6, 60, by omega, by omega, q, rfl, R.1.1, 6, 60, Nat.le_refl _, Nat.le_refl _, B_run R hS (by omega) (by omega) hb3
    (fun z => Or.inl ⟨rfl, hQ 6 60 1 w M.1.1 (fun K hK => N_run M hS hb3 (fun _ w' p => hK w' (X 1 p)) (fun y => absurd y z) (fun b hb hx => absurd ⟨b, hb, hx⟩ z))⟩)
    (fun y z => Or.inr ⟨rfl, hQ 6 60 2 w M.1.1 (fun K hK => N_run M hS hb3 (fun z2 => absurd y z2) (fun _ _ w' p => hK w' (X 2 p)) (fun _ _ _ z2 => absurd z2 z))⟩)
    (fun b hb hx z w7 R7 F7 => ?_)⟩
  have M7 := RM_frC M F7
  have r7 := (res_frC hr F7).1
  have u := us_um S 5 b x2
  have u2 := us_um (um S 5 b x2) 6 b x3
  refine hQ 6 60 0 w7 M7.1.1 (fun K hK => N_run M7 hS hb3 (fun z2 => absurd ⟨b, hb, hx⟩ z2) (fun _ z2 => absurd z z2) (fun b2 hb2 hx2 _ w' p => hK w' ?_))
  have e := inj hb hb2 hx hx2
  subst e
  exact Jn_mk R7 (ok_um (ok_um hS (by unfold okSlot; decide) _ _) (by unfold okSlot; decide) _ _) (n9_um (n9_um h9 (by decide) _ _) (by decide) _ _) M7.1 p (Nat.le_trans (phi_um (by decide) _ _) (Nat.le_trans (phi_um (by decide) _ _) (by omega))) hp r7 hA n1 n2 (by omega) (by omega)
