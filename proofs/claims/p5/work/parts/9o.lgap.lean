/-! ONE CALL OF BOTH: gap (no word of its answer) -/
theorem L_gap {e0 mi c q m r nc ns : Nat} {w : Wd} {x1 x2 : Int32} {Q' : Nat → Nat → Int32 → Wd → Prop} (J : Jn e0 c w q m r nc ns) (hc : c < 512)
    (hQ : ∀ k8 k9 i w7, bw_is w7 m 6 → (∀ K : Int32 → Wd → Prop, (∀ v w18, Aft e0 c i w18 q m r (nc - k8) (ns - k9) → K v w18) → wp_Mo_gap e0 mi m x1 x2 w7 K) → Q' k8 k9 i w7) : ∃ k8 k9, k8 ≤ nc ∧ k9 ≤ ns ∧ wp_La_gap e0 mi (some q) x1 x2 (some r) w k8 k9 (Q' k8 k9) := by
  obtain ⟨S, A, P, LE, LW, R, M, hS, h9, hp, hr, hA, n1, n2⟩ := J
  have few := us_few R hS (by omega)
  have t60 := hS.1.2.1
  have inj : ∀ {x : Int32} {i i2 : Nat}, i ≤ nT S → i2 ≤ nT S → x = nI i → x = nI i2 → i2 = i := fun hb hb2 e1 e2 => ((nI_eq (by omega) (by omega)).mp (e1.symm.trans e2)).symm
  have X : ∀ (i : Int32) {v : Int32} {w'}, ¬ i = 0 → PM m A S i w w' → AftV e0 c i v w' q m r (nc - 6) (ns - 60) := fun i v w' hi p => Jx_mk hi R hS h9 M.1 hr hA p hp n1 n2 (by omega) (by omega)
  refine ⟨6, 60, by omega, by omega, q, rfl, R.1.1, 6, 60, Nat.le_refl _, Nat.le_refl _, B_gap R hS (by omega) (by omega)
    (fun z => Or.inl ⟨rfl, hQ 6 60 1 w M.1.1 (fun K hK => N_gap M hS (fun _ w' p => hK _ w' (X (v := 0) 1 (by decide) p).1) (fun i j a1 a2 a3 c1 c2 c3 => absurd ⟨⟨i, a1, a2, a3⟩, ⟨j, c1, c2, c3⟩⟩ z) (fun i j a1 a2 a3 c1 c2 c3 => absurd ⟨⟨i, a1, a2, a3⟩, ⟨j, c1, c2, c3⟩⟩ z))⟩)
    (fun i j a1 a2 a3 c1 c2 c3 z => Or.inr ⟨rfl, hQ 6 60 2 w M.1.1 (fun K hK => N_gap M hS (fun z2 => absurd ⟨⟨i, a1, a2, a3⟩, ⟨j, c1, c2, c3⟩⟩ z2) (fun _ _ _ _ _ _ _ _ _ w' p => hK _ w' (X (v := 0) 2 (by decide) p).1) (fun i2 j2 _ d2 d3 _ f2 f3 g1 g2 g3 g4 => absurd ?_ z))⟩)
    (fun i j a1 a2 a3 c1 c2 c3 g1 g2 g3 g4 => ⟨r, rfl, hr.1, by rw [hr.2]; unfold vp_in; decide, hQ 6 60 0 _ M.1.1 (fun K hK => N_gap (RM_row M hA) hS (fun z2 => absurd ⟨⟨i, a1, a2, a3⟩, ⟨j, c1, c2, c3⟩⟩ z2) (fun i2 j2 _ d2 d3 _ f2 f3 z => absurd ?_ z) (fun _ _ _ _ _ _ _ _ _ _ _ _ _ _ _ _ _ w' p => hK _ w' (Jv_mk R hS h9 M.1 hr hA p (by omega) hp n1 n2 (by omega) (by omega)).1))⟩)⟩
  · have e1 := inj a2 d2 a3 d3
    have e2 := inj c2 f2 c3 f3
    subst e1 e2
    exact ⟨g1, g2, g3, g4⟩
  · have e1 := inj a2 d2 a3 d3
    have e2 := inj c2 f2 c3 f3
    subst e1 e2
    exact ⟨g1, g2, g3, g4⟩
