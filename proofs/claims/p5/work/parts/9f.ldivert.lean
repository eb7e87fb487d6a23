/-! ONE CALL OF BOTH: divert, take -/
theorem L_divert {e0 mi c q m r nc ns : Nat} {w : Wd} {x1 x2 : Int32} {Q' : Nat → Nat → Int32 → Wd → Prop} (J : Jn e0 c w q m r nc ns) (hc : c < 512)
    (hQ : ∀ k8 k9 i w7, bw_is w7 m 6 → (∀ K : Int32 → Wd → Prop, (∀ v w18, AftV e0 c i v w18 q m r (nc - k8) (ns - k9) → K v w18) → wp_Mo_divert e0 mi m x1 x2 w7 K) → Q' k8 k9 i w7) : ∃ k8 k9, k8 ≤ nc ∧ k9 ≤ ns ∧ wp_La_divert e0 mi (some q) x1 x2 (some r) w k8 k9 (Q' k8 k9) := by
  obtain ⟨S, A, P, LE, LW, R, M, hS, h9, hp, hr, hA, n1, n2⟩ := J
  have few := us_few R hS (by omega)
  have t60 := hS.1.2.1
  have inj : ∀ {b b2 : Nat}, b ≤ nT S → b2 ≤ nT S → x1 = nI b → x1 = nI b2 → b2 = b := fun hb hb2 e1 e2 => ((nI_eq (by omega) (by omega)).mp (e1.symm.trans e2)).symm
  have X : ∀ (i : Int32) {v : Int32} {w'}, ¬ i = 0 → PM m A S i w w' → AftV e0 c i v w' q m r (nc - 6) (ns - 60) := fun i v w' hi p => Jx_mk hi R hS h9 M.1 hr hA p hp n1 n2 (by omega) (by omega)
  refine ⟨6, 60, by omega, by omega, q, rfl, R.1.1, 6, 60, Nat.le_refl _, Nat.le_refl _, B_divert R hS (by omega) (by omega)
    (fun z => Or.inl ⟨rfl, hQ 6 60 1 w M.1.1 (fun K hK => N_divert M hS (fun _ w' p => hK _ w' (X 1 (by decide) p)) (fun y => absurd y z) (fun i a b hx => absurd ⟨i, a, b, hx⟩ z) (fun i a b hx => absurd ⟨i, a, b, hx⟩ z))⟩)
    (fun y z => Or.inr (Or.inl ⟨rfl, hQ 6 60 2 w M.1.1 (fun K hK => N_divert M hS (fun z2 => absurd y z2) (fun _ _ w' p => hK _ w' (X 2 (by decide) p)) (fun _ _ _ _ z2 => absurd z2 z) (fun _ _ _ _ z2 => absurd z2 z))⟩))
    (fun i i1 i2' hx z z3 => Or.inr (Or.inr ⟨rfl, hQ 6 60 3 w M.1.1 (fun K hK => N_divert M hS (fun z2 => absurd ⟨i, i1, i2', hx⟩ z2) (fun _ z2 => absurd z z2) (fun _ _ _ _ _ _ w' p => hK _ w' (X 3 (by decide) p)) (fun j _ j2 hx2 _ z5 => absurd (inj i2' j2 hx hx2 ▸ z5) z3))⟩))
    (fun i i1 i2' hx z z3 w7 R7 F7 => ?_)⟩
  have M7 := RM_frC M F7
  have r7 := (res_frC hr F7).1
  have u := us_um S 17 i x2
  have u2 := us_um (um S 17 i x2) 18 i 1
  refine ⟨r, rfl, r7.1, by rw [r7.2]; unfold vp_in; decide, hQ 6 60 0 _ M7.1.1 (fun K hK => N_divert (RM_row M7 hA) hS (fun z2 => absurd ⟨i, i1, i2', hx⟩ z2) (fun _ z2 => absurd z z2) (fun j _ j2 hx2 _ z5 => absurd z3 (inj i2' j2 hx hx2 ▸ z5)) (fun j j1 j2 hx2 _ _ w' p => hK _ w' ?_))⟩
  have e := inj i2' j2 hx hx2
  subst e
  exact Jv_mk R7 (ok_div hS (rng01 z) _) (n9_um (n9_um h9 (by decide) _ _) (by decide) _ _) M7.1 r7 hA p (Nat.le_trans (phi_div S _ _ _) (by omega)) hp n1 n2 (by omega) (by omega)
