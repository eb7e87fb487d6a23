/-! ONE CALL OF BOTH: known -/
theorem L_known {e0 mi c q m r nc ns : Nat} {w : Wd} {x1 x2 : Int32} {Q' : Nat → Nat → Int32 → Wd → Prop} (J : Jn e0 c w q m r nc ns) (hc : c < 512)
    (hQ : ∀ k8 k9 i w7, bw_is w7 m 6 → (∀ K : Int32 → Wd → Prop, (∀ v w18, AftV e0 c i v w18 q m r (nc - k8) (ns - k9) → K v w18) → wp_Mo_known e0 mi m x1 x2 w7 K) → Q' k8 k9 i w7) : ∃ k8 k9, k8 ≤ nc ∧ k9 ≤ ns ∧ wp_La_known e0 mi (some q) x1 x2 (some r) w k8 k9 (Q' k8 k9) := by
  obtain ⟨S, A, P, LE, LW, R, M, hS, h9, hp, hr, hA, n1, n2⟩ := J
  have few := us_few R hS (by omega)
  have b8 := hS.1.1
  have inj : ∀ {b b2 : Nat}, b < nB S → b2 < nB S → x1 = nI b → x1 = nI b2 → b2 = b := fun hb hb2 e1 e2 => ((nI_eq (by omega) (by omega)).mp (e1.symm.trans e2)).symm
  have X : ∀ (i : Int32) {v : Int32} {w'}, ¬ i = 0 → PM m A S i w w' → AftV e0 c i v w' q m r (nc - 6) (ns - 60) := fun i v w' hi p => Jx_mk hi R hS h9 M.1 hr hA p hp n1 n2 (by omega) (by omega)
  have G : ∀ v : Int32, (∀ K : Int32 → Wd → Prop, (∀ w', PM m A S 0 (sJ w r 0 v.toInt64) w' → K v w') → wp_Mo_known e0 mi m x1 x2 (sJ w r 0 v.toInt64) K) → (∃ a10 : Nat, some r = some a10 ∧ (bw_is w a10 102 ∧ (vp_in (0 : Int32) (wN w a10) ∧ (Q' 6 60 (0 : Int32) (sJ w a10 (0 : Int32).toNatClampNeg v.toInt64))))) := fun v hv => ⟨r, rfl, hr.1, by rw [hr.2]; unfold vp_in; decide, hQ 6 60 0 _ M.1.1 (fun K hK => hv K (fun w' p => hK _ w' (Jv_mk R hS h9 M.1 hr hA p (by omega) hp n1 n2 (by omega) (by omega))))⟩
  refine ⟨6, 60, by omega, by omega, q, rfl, R.1.1, 6, 60, Nat.le_refl _, Nat.le_refl _, B_known R hS (by omega) (by omega)
    (fun z => Or.inl ⟨rfl, hQ 6 60 1 w M.1.1 (fun K hK => N_known M hS (fun _ w' p => hK _ w' (X 1 (by decide) p)) (fun y => absurd y z) (fun b hb hx => absurd ⟨b, hb, hx⟩ z))⟩)
    (fun y z => Or.inr ⟨rfl, hQ 6 60 2 w M.1.1 (fun K hK => N_known M hS (fun z2 => absurd y z2) (fun _ _ w' p => hK _ w' (X 2 (by decide) p)) (fun b hb hx w' p => ?_))⟩)
    (fun b hb hx => ?_)⟩
  · refine ⟨fun y => ?_, fun y => ?_, fun y => ?_, fun y => ?_, fun y => ?_, fun y => ?_, fun y => ?_, fun y => ?_, fun y => ?_⟩ <;> (subst y; exact absurd z (by decide))
  · refine ⟨fun y => ?_, fun y => ?_, fun y => ?_, fun y => ?_, fun y => ?_, fun y => ?_, fun y => ?_, fun y => ?_, fun y => ?_⟩ <;> (subst y; refine G _ (fun K hK => N_known (RM_row M hA) hS (fun z2 => absurd ⟨b, hb, hx⟩ z2) (fun _ z2 => absurd z2 (by decide)) (fun b2 hb2 hx2 w' p => ?_)); have ej := inj hb hb2 hx hx2; subst ej; refine ⟨fun z => ?_, fun z => ?_, fun z => ?_, fun z => ?_, fun z => ?_, fun z => ?_, fun z => ?_, fun z => ?_, fun z => ?_⟩ <;> first | exact absurd z (by decide) | exact hK w' p)
