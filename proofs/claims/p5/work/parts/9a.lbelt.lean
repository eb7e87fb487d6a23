/-! ONE CALL OF BOTH: belt -/
theorem gC_le (n : Nat) : gC n n ≤ 1 := by unfold gC; split <;> omega
theorem gS_le (n : Nat) : gS n n ≤ 12 + 2 * n := by
  unfold gS
  rw [show max n (n + 1) = n + 1 by omega]
  have := (cap_facts (n + 1)).2.1
  split <;> omega
theorem L_belt {e0 mi c q m r nc ns : Nat} {w : Wd} {x1 x2 : Int32} {Q' : Nat → Nat → Int32 → Wd → Prop} (J : Jn e0 c w q m r nc ns) (hc : c < 512)
    (hQ : ∀ k8 k9 i w7, bw_is w7 m 6 → (∀ K : Int32 → Wd → Prop, (∀ v w18, AftV e0 c i v w18 q m r (nc - k8) (ns - k9) → K v w18) → wp_Mo_belt e0 mi m x1 x2 w7 K) → Q' k8 k9 i w7) : ∃ k8 k9, k8 ≤ nc ∧ k9 ≤ ns ∧ wp_La_belt e0 mi (some q) x1 x2 (some r) w k8 k9 (Q' k8 k9) := by
  obtain ⟨S, A, P, LE, LW, R, M, hS, h9, hp, hr, hA, n1, n2⟩ := J
  have few := us_few R hS (by omega)
  have b8 := hS.1.1
  have g1 := gC_le (nB S)
  have g2 := gS_le (nB S)
  refine ⟨7, 68, by omega, by omega, q, rfl, R.1.1, 7, 68, Nat.le_refl _, Nat.le_refl _, B_belt R hS h9 (by omega) (by omega) (fun z => Or.inl ⟨rfl, hQ 7 68 1 w M.1.1 (fun K hK => N_belt M hS (fun _ w' p => hK _ w' (Jx_mk (by decide) R hS h9 M.1 hr hA p hp n1 n2 (by omega) (by omega))) (fun z2 => absurd z2 z) (fun z2 => absurd z2 z))⟩) (fun z z1 => Or.inr ⟨rfl, hQ 7 68 2 w M.1.1 (fun K hK => N_belt M hS (fun z2 => absurd z z2) (fun _ _ w' p => hK _ w' (Jx_mk (by decide) R hS h9 M.1 hr hA p hp n1 n2 (by omega) (by omega))) (fun _ z2 => absurd z2 (by omega)))⟩) (fun z z1 w7 P' R7 F7 => ?_)⟩
  have M7 := RM_frC M F7
  have r7 := (res_frC hr F7).1
  have u := us_belt S x1 x2
  exact ⟨r, rfl, r7.1, by rw [r7.2]; unfold vp_in; decide, hQ 7 68 0 _ M7.1.1 (fun K hK => N_belt (RM_row M7 hA) hS (fun z2 => absurd z z2) (fun _ z2 => absurd z2 (by omega)) (fun _ _ w' p => hK _ w' (Jv_mk R7 (ok_belt hS z1 x1 x2) (n9_belt h9 x1 x2) M7.1 r7 hA p (Nat.le_trans (phi_belt S x1 x2) (by omega)) hp n1 n2 (by omega) (by omega))))⟩
