/-! ONE CALL OF BOTH: order, mean -/
theorem L_order {e0 mi c q m r nc ns : Nat} {w : Wd} {x1 : Int32} {Q' : Nat → Nat → Int32 → Wd → Prop} (J : Jn e0 c w q m r nc ns) (hc : c < 512)
    (hQ : ∀ k8 k9 i w7, bw_is w7 m 6 → (∀ K : Int32 → Wd → Prop, (∀ v w18, AftV e0 c i v w18 q m r (nc - k8) (ns - k9) → K v w18) → wp_Mo_order e0 mi m x1 w7 K) → Q' k8 k9 i w7) : ∃ k8 k9, k8 ≤ nc ∧ k9 ≤ ns ∧ wp_La_order e0 mi (some q) x1 (some r) w k8 k9 (Q' k8 k9) := by
  obtain ⟨S, A, P, LE, LW, R, M, hS, h9, hp, hr, hA, n1, n2⟩ := J
  have few := us_few R hS (by omega)
  have hg := gos_le hS
  have inj : ∀ {j j2 : Nat}, j < (gos S).length → j2 < (gos S).length → x1 = nI j → x1 = nI j2 → j2 = j := fun hb hb2 e1 e2 => ((nI_eq (by omega) (by omega)).mp (e1.symm.trans e2)).symm
  have lt : ∀ {j i : Nat}, (gos S)[j]? = some i → j < (gos S).length := fun h => (List.getElem?_eq_some_iff.mp h).1
  have X : ∀ (i : Int32) {v : Int32} {w'}, ¬ i = 0 → PM m A S i w w' → AftV e0 c i v w' q m r (nc - 6) (ns - 60) := fun i v w' hi p => Jx_mk hi R hS h9 M.1 hr hA p hp n1 n2 (by omega) (by omega)
  have G : ∀ v : Int32, (∀ K : Int32 → Wd → Prop, (∀ w', PM m A S 0 (sJ w r 0 v.toInt64) w' → K v w') → wp_Mo_order e0 mi m x1 (sJ w r 0 v.toInt64) K) → (∃ a10 : Nat, some r = some a10 ∧ (bw_is w a10 102 ∧ (vp_in (0 : Int32) (wN w a10) ∧ (Q' 6 60 (0 : Int32) (sJ w a10 (0 : Int32).toNatClampNeg v.toInt64))))) := fun v hv => ⟨r, rfl, hr.1, by rw [hr.2]; unfold vp_in; decide, hQ 6 60 0 _ M.1.1 (fun K hK => hv K (fun w' p => hK _ w' (Jv_mk R hS h9 M.1 hr hA p (by omega) hp n1 n2 (by omega) (by omega))))⟩
  refine ⟨6, 60, by omega, by omega, q, rfl, R.1.1, 6, 60, Nat.le_refl _, Nat.le_refl _, B_order R hS (by omega) (by omega) (by omega)
    (fun z => ⟨rfl, hQ 6 60 1 w M.1.1 (fun K hK => N_order M hg (fun _ w' p => hK _ w' (X 1 (by decide) p)) (fun j e he hx => absurd ⟨j, lt he, hx⟩ z))⟩)
    (fun j e he hx => G _ (fun K hK => N_order (RM_row M hA) hg (fun z2 => absurd ⟨j, lt he, hx⟩ z2) (fun j2 e2 he2 hx2 w' p => ?_)))⟩
  have ej := inj (lt he) (lt he2) hx hx2
  subst ej
  have ee := Option.some.inj (he.symm.trans he2)
  subst ee
  exact hK w' p
theorem L_mean {e0 mi c q m r nc ns : Nat} {w : Wd} {Q' : Nat → Nat → Int32 → Wd → Prop} (J : Jn e0 c w q m r nc ns) (hc : c < 512)
    (hQ : ∀ k8 k9 i w7, bw_is w7 m 6 → (∀ K : Int32 → Wd → Prop, (∀ v w18, AftV e0 c i v w18 q m r (nc - k8) (ns - k9) → K v w18) → wp_Mo_mean e0 mi m w7 K) → Q' k8 k9 i w7) : ∃ k8 k9, k8 ≤ nc ∧ k9 ≤ ns ∧ wp_La_mean e0 mi (some q) (some r) w k8 k9 (Q' k8 k9) := by
  obtain ⟨S, A, P, LE, LW, R, M, hS, h9, hp, hr, hA, n1, n2⟩ := J
  have few := us_few R hS (by omega)
  have hg := gos_le hS
  have X : ∀ (i : Int32) {v : Int32} {w'}, ¬ i = 0 → PM m A S i w w' → AftV e0 c i v w' q m r (nc - 6) (ns - 60) := fun i v w' hi p => Jx_mk hi R hS h9 M.1 hr hA p hp n1 n2 (by omega) (by omega)
  have G : ∀ v : Int32, (∀ K : Int32 → Wd → Prop, (∀ w', PM m A S 0 (sJ w r 0 v.toInt64) w' → K v w') → wp_Mo_mean e0 mi m (sJ w r 0 v.toInt64) K) → (∃ a10 : Nat, some r = some a10 ∧ (bw_is w a10 102 ∧ (vp_in (0 : Int32) (wN w a10) ∧ (Q' 6 60 (0 : Int32) (sJ w a10 (0 : Int32).toNatClampNeg v.toInt64))))) := fun v hv => ⟨r, rfl, hr.1, by rw [hr.2]; unfold vp_in; decide, hQ 6 60 0 _ M.1.1 (fun K hK => hv K (fun w' p => hK _ w' (Jv_mk R hS h9 M.1 hr hA p (by omega) hp n1 n2 (by omega) (by omega))))⟩
  exact ⟨6, 60, by omega, by omega, q, rfl, R.1.1, 6, 60, Nat.le_refl _, Nat.le_refl _, B_mean R (by omega) (by omega) (by omega)
    (fun z => ⟨rfl, hQ 6 60 1 w M.1.1 (fun K hK => N_mean M hg (fun _ w' p => hK _ w' (X 1 (by decide) p)) (fun z2 => absurd z z2))⟩)
    (fun z => G _ (fun K hK => N_mean (RM_row M hA) hg (fun z2 => absurd z2 z) (fun _ w' p => hK w' p)))⟩
