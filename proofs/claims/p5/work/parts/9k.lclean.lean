/-! ONE CALL OF BOTH: clean -/
theorem L_clean {e0 mi c q m r nc ns : Nat} {w : Wd} {x1 : Int32} {Q' : Nat → Nat → Int32 → Wd → Prop} (J : Jn e0 c w q m r nc ns) (hc : c < 512)
    (hQ : ∀ k8 k9 i w7, bw_is w7 m 6 → (∀ K : Int32 → Wd → Prop, (∀ v w18, AftV e0 c i v w18 q m r (nc - k8) (ns - k9) → K v w18) → wp_Mo_clean e0 mi m x1 w7 K) → Q' k8 k9 i w7) : ∃ k8 k9, k8 ≤ nc ∧ k9 ≤ ns ∧ wp_La_clean e0 mi (some q) x1 (some r) w k8 k9 (Q' k8 k9) := by
  obtain ⟨S, A, P, LE, LW, R, M, hS, h9, hp, hr, hA, n1, n2⟩ := J
  have few := us_few R hS (by omega)
  have b8 := hS.1.1
  have inj : ∀ {b b2 : Nat}, b < nB S → b2 < nB S → x1 = nI b → x1 = nI b2 → b2 = b := fun hb hb2 e1 e2 => ((nI_eq (by omega) (by omega)).mp (e1.symm.trans e2)).symm
  have X : ∀ (i : Int32) {v : Int32} {w'}, ¬ i = 0 → PM m A S i w w' → AftV e0 c i v w' q m r (nc - 6) (ns - 60) := fun i v w' hi p => Jx_mk hi R hS h9 M.1 hr hA p hp n1 n2 (by omega) (by omega)
  refine ⟨6, 60, by omega, by omega, q, rfl, R.1.1, 6, 60, Nat.le_refl _, Nat.le_refl _, B_clean R hS (by omega) (by omega)
    (fun z => Or.inl ⟨rfl, hQ 6 60 1 w M.1.1 (fun K hK => N_clean M hS (fun _ w' p => hK _ w' (X 1 (by decide) p)) (fun b hb hx => absurd ⟨b, hb, hx⟩ z) (fun b hb hx => absurd ⟨b, hb, hx⟩ z))⟩)
    (fun b hb hx z3 => Or.inr ⟨rfl, hQ 6 60 2 w M.1.1 (fun K hK => N_clean M hS (fun z2 => absurd ⟨b, hb, hx⟩ z2) (fun _ _ _ _ w' p => hK _ w' (X 2 (by decide) p)) (fun b2 hb2 hx2 z5 => absurd (inj hb hb2 hx hx2 ▸ z5) z3))⟩)
    (fun b hb hx z w7 R7 F7 => ?_)⟩
  have M7 := RM_frC M F7
  have r7 := (res_frC hr F7).1
  have u := us_clean (b := b) (rr S b).length S
  refine ⟨r, rfl, r7.1, by rw [r7.2]; unfold vp_in; decide, hQ 6 60 0 _ M7.1.1 (fun K hK => N_clean (RM_row M7 hA) hS (fun z2 => absurd ⟨b, hb, hx⟩ z2) (fun b2 hb2 hx2 z5 => absurd (inj hb2 hb hx2 hx ▸ z) z5) (fun b2 hb2 hx2 _ w' p => hK _ w' ?_))⟩
  have e := inj hb hb2 hx hx2
  subst e
  exact Jv_mk R7 (ok_clean _ hS) (n9_clean _ h9).1 M7.1 r7 hA p (Nat.le_trans (phi_clean _ hS) (by omega)) hp n1 n2 (by omega) (by omega)
