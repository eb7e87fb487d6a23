/-! ONE CALL OF BOTH: told (field 4 of what is out or taken: no word of its answer) -/
theorem L_told {e0 mi c q m r nc ns : Nat} {w : Wd} {x1 x2 : Int32} {Q' : Nat → Nat → Int32 → Wd → Prop} (J : Jn e0 c w q m r nc ns) (hc : c < 512)
    (hQ : ∀ k8 k9 i w7, bw_is w7 m 6 → (∀ K : Int32 → Wd → Prop, (∀ v w18, Aft e0 c i w18 q m r (nc - k8) (ns - k9) → (¬ x2 = 4 → i = 0 → wJ w18 r 0 = v.toInt64) → K v w18) → wp_Mo_told e0 mi m x1 x2 w7 K) → Q' k8 k9 i w7) : ∃ k8 k9, k8 ≤ nc ∧ k9 ≤ ns ∧ wp_La_told e0 mi (some q) x1 x2 (some r) w k8 k9 (Q' k8 k9) := by
  obtain ⟨S, A, P, LE, LW, R, M, hS, h9, hp, hr, hA, n1, n2⟩ := J
  have few := us_few R hS (by omega)
  have t60 := hS.1.2.1
  have inj : ∀ {i i2 : Nat}, i ≤ nT S → i2 ≤ nT S → x1 = nI i → x1 = nI i2 → i2 = i := fun hb hb2 e1 e2 => ((nI_eq (by omega) (by omega)).mp (e1.symm.trans e2)).symm
  have on : ∀ {i b p : Nat}, (rr S b)[p]? = some i → 1 ≤ i ∧ i ≤ nT S ∧ mm S 13 i = 0 := fun h => ⟨(hS.2.2.1 _ _ (List.mem_of_getElem? h)).1, (hS.2.2.1 _ _ (List.mem_of_getElem? h)).2.1, (hS.2.2.1 _ _ (List.mem_of_getElem? h)).2.2.1⟩
  have X : ∀ (i : Int32) {v : Int32} {w'}, ¬ i = 0 → PM m A S i w w' → AftV e0 c i v w' q m r (nc - 6) (ns - 60) := fun i v w' hi p => Jx_mk hi R hS h9 M.1 hr hA p hp n1 n2 (by omega) (by omega)
  have G : ∀ v : Int32, (∀ K : Int32 → Wd → Prop, (∀ v2 w', (¬ x2 = 4 → v2 = v) → PM m A S 0 (sJ w r 0 v.toInt64) w' → K v2 w') → wp_Mo_told e0 mi m x1 x2 (sJ w r 0 v.toInt64) K) → (∃ a10 : Nat, some r = some a10 ∧ (bw_is w a10 102 ∧ (vp_in (0 : Int32) (wN w a10) ∧ (Q' 6 60 (0 : Int32) (sJ w a10 (0 : Int32).toNatClampNeg v.toInt64))))) := fun v hv => ⟨r, rfl, hr.1, by rw [hr.2]; unfold vp_in; decide, hQ 6 60 0 _ M.1.1 (fun K hK => hv K (fun v2 w' e p => by
    have j := Jv_mk (v := v) R hS h9 M.1 hr hA p (by omega) hp n1 n2 (show usC S + 6 ≤ usC S + 10 by omega) (show usS S + 60 ≤ usS S + 200 by omega)
    exact hK v2 w' j.1 (fun z y => by rw [e z]; exact j.2 y)))⟩
  refine ⟨6, 60, by omega, by omega, q, rfl, R.1.1, 6, 60, Nat.le_refl _, Nat.le_refl _, B_told R hS (by omega) (by omega)
    (fun z => Or.inl ⟨rfl, hQ 6 60 1 w M.1.1 (fun K hK => N_told M hS (fun _ w' p => hK _ w' (X (v := 0) 1 (by decide) p).1 (fun _ z => absurd z (by decide))) (fun y => absurd y z) (fun i a b hx => absurd ⟨i, a, b, hx⟩ z))⟩)
    (fun y z => Or.inr ⟨rfl, hQ 6 60 2 w M.1.1 (fun K hK => N_told M hS (fun z2 => absurd y z2) (fun _ _ w' p => hK _ w' (X (v := 0) 2 (by decide) p).1 (fun _ z => absurd z (by decide))) (fun i a b hx w' p => ?_))⟩)
    (fun i i1 i2' hx => ?_)⟩
  · refine ⟨fun y => ?_, fun y => ?_, fun y => ?_, fun y => ?_, fun y => ?_, fun y => ?_, fun y => ?_⟩ <;> (subst y; exact absurd z (by decide))
  · have T : ∀ v : Int32, ((x2 = 0 → mm S 13 i = v) ∧ (x2 = 1 → mm S 14 i = v) ∧ (x2 = 2 → (if mm S 13 i = 0 then mm S 15 i else -1) = v) ∧ (x2 = 3 → mm S 16 i = v) ∧ (x2 = 5 → (if mm S 13 i = 0 then mm S 19 i else -1) = v) ∧ (x2 = 6 → mm S 20 i = v)) → ¬ (x2.toInt < 0 ∨ 6 < x2.toInt) → (∃ a10 : Nat, some r = some a10 ∧ (bw_is w a10 102 ∧ (vp_in (0 : Int32) (wN w a10) ∧ (Q' 6 60 (0 : Int32) (sJ w a10 (0 : Int32).toNatClampNeg v.toInt64))))) := fun v hv hn => G v (fun K hK => N_told (RM_row M hA) hS (fun z2 => absurd ⟨i, i1, i2', hx⟩ z2) (fun _ z2 => absurd z2 hn) (fun j j1 j2 hx2 w' p => by
      have ej := inj i2' j2 hx hx2
      subst ej
      exact ⟨fun y => hK _ w' (fun _ => hv.1 y) p, fun y => hK _ w' (fun _ => hv.2.1 y) p, fun y => hK _ w' (fun _ => hv.2.2.1 y) p, fun y => hK _ w' (fun _ => hv.2.2.2.1 y) p, fun y => hK _ w' (fun z => absurd y z) p, fun y => hK _ w' (fun _ => hv.2.2.2.2.1 y) p, fun y => hK _ w' (fun _ => hv.2.2.2.2.2 y) p⟩))
    refine ⟨fun y => T _ ?_ ?_, fun y => T _ ?_ ?_, fun y => T _ ?_ ?_, fun y => T _ ?_ ?_, fun y v _ => T _ ?_ ?_, fun y => T _ ?_ ?_, fun y => T _ ?_ ?_⟩ <;> (subst y) <;> first | decide | (refine ⟨fun z => ?_, fun z => ?_, fun z => ?_, fun z => ?_, fun z => ?_, fun z => ?_⟩ <;> first | exact absurd z (by decide) | rfl)
