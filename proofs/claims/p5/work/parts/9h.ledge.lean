/-! ONE CALL OF BOTH: edge -/
theorem L_edge {e0 mi c q m r nc ns : Nat} {w : Wd} {x1 x2 : Int32} {Q' : Nat → Nat → Int32 → Wd → Prop} (J : Jn e0 c w q m r nc ns) (hc : c < 512)
    (hQ : ∀ k8 k9 i w7, bw_is w7 m 6 → (∀ K : Int32 → Wd → Prop, (∀ v w18, AftV e0 c i v w18 q m r (nc - k8) (ns - k9) → K v w18) → wp_Mo_edge e0 mi m x1 x2 w7 K) → Q' k8 k9 i w7) : ∃ k8 k9, k8 ≤ nc ∧ k9 ≤ ns ∧ wp_La_edge e0 mi (some q) x1 x2 (some r) w k8 k9 (Q' k8 k9) := by
  obtain ⟨S, A, P, LE, LW, R, M, hS, h9, hp, hr, hA, n1, n2⟩ := J
  have few := us_few R hS (by omega)
  have hel : (eds S).length < 2900 := by have : (eds S).length ≤ Phi S := (by unfold Phi; omega); omega
  have inj : ∀ {j j2 : Nat}, j < (eds S).length → j2 < (eds S).length → x1 = nI j → x1 = nI j2 → j2 = j := fun hb hb2 e1 e2 => ((nI_eq (by omega) (by omega)).mp (e1.symm.trans e2)).symm
  have lt : ∀ {j : Nat} {e : Ed}, (eds S)[j]? = some e → j < (eds S).length := fun h => (List.getElem?_eq_some_iff.mp h).1
  have X : ∀ (i : Int32) {v : Int32} {w'}, ¬ i = 0 → PM m A S i w w' → AftV e0 c i v w' q m r (nc - 6) (ns - 60) := fun i v w' hi p => Jx_mk hi R hS h9 M.1 hr hA p hp n1 n2 (by omega) (by omega)
  have G : ∀ v : Int32, (∀ K : Int32 → Wd → Prop, (∀ w', PM m A S 0 (sJ w r 0 v.toInt64) w' → K v w') → wp_Mo_edge e0 mi m x1 x2 (sJ w r 0 v.toInt64) K) → (∃ a10 : Nat, some r = some a10 ∧ (bw_is w a10 102 ∧ (vp_in (0 : Int32) (wN w a10) ∧ (Q' 6 60 (0 : Int32) (sJ w a10 (0 : Int32).toNatClampNeg v.toInt64))))) := fun v hv => ⟨r, rfl, hr.1, by rw [hr.2]; unfold vp_in; decide, hQ 6 60 0 _ M.1.1 (fun K hK => hv K (fun w' p => hK _ w' (Jv_mk R hS h9 M.1 hr hA p (by omega) hp n1 n2 (by omega) (by omega))))⟩
  refine ⟨6, 60, by omega, by omega, q, rfl, R.1.1, 6, 60, Nat.le_refl _, Nat.le_refl _, B_edge R (by omega) (by omega) (by omega)
    (fun z => Or.inl ⟨rfl, hQ 6 60 1 w M.1.1 (fun K hK => N_edge M hS (by omega) (fun _ w' p => hK _ w' (X 1 (by decide) p)) (fun y => absurd y z) (fun j e he hx => absurd ⟨j, lt he, hx⟩ z))⟩)
    (fun y z => Or.inr ⟨rfl, hQ 6 60 2 w M.1.1 (fun K hK => N_edge M hS (by omega) (fun z2 => absurd y z2) (fun _ _ w' p => hK _ w' (X 2 (by decide) p)) (fun j e he hx w' p => ?_))⟩)
    (fun j e he hx => ?_)⟩
  · refine ⟨fun y2 => ?_, fun y2 => ?_, fun y2 => ?_, fun y2 => ?_⟩ <;> (subst y2; exact absurd z (by decide))
  · refine ⟨fun y => ?_, fun y => ?_, fun y => ?_, fun y => ?_⟩ <;> (subst y; refine G _ (fun K hK => N_edge (RM_row M hA) hS (by omega) (fun z2 => absurd ⟨j, lt he, hx⟩ z2) (fun _ z2 => absurd z2 (by decide)) (fun j2 e2 he2 hx2 w' p => ?_)); have ej := inj (lt he) (lt he2) hx hx2; subst ej; have ee := Option.some.inj (he.symm.trans he2); subst ee; refine ⟨fun z => ?_, fun z => ?_, fun z => ?_, fun z => ?_⟩ <;> first | exact absurd z (by decide) | exact hK w' p)
