/-! ONE CALL OF BOTH: gaps, belt -/
def Aft (e0 c : Nat) (i : Int32) (w : Wd) (q m r nc ns : Nat) : Prop := Jn e0 (c + 1) w q m r nc ns ∧ wI w m 0 = i
def AftV (e0 c : Nat) (i v : Int32) (w : Wd) (q m r nc ns : Nat) : Prop := Aft e0 c i w q m r nc ns ∧ (i = 0 → wJ w r 0 = v.toInt64)
theorem Jn_mk {e0 c q m r nc ns k8 k9 : Nat} {S S' : St} {w7 w' : Wd} {A : Nat → Nat} {P : Nat → Nat → Nat} {LE LW : List (Nat × Ed)} {i : Int32} (R : RC e0 S' w7 q P LE LW) (hS : okS S') (h9 : ok9 S') (hM : isM w7 m A) (hp : PM m A S' i w7 w') (hphi : Phi S' ≤ Phi S + 4) (h0 : Phi S ≤ 720 + 4 * c) (hr : isRes w7 r) (hA : ∀ k, 0 < mKd k → A k ≠ r)
    (n1 : 50000 ≤ nc + usC S + 10 * c) (n2 : 500000 ≤ ns + usS S + 200 * c) (u1 : usC S + k8 ≤ usC S' + 10) (u2 : usS S + k9 ≤ usS S' + 200) : Aft e0 c i w' q m r (nc - k8) (ns - k9) := by
  refine ⟨⟨S', A, P, LE, LW, RC_fx (S' := S') R hS hM hp.2.1, hp.1, hS, h9, by omega, (res_fx hr hM hA hp.2.1).1, hA, by omega, by omega⟩, hp.2.2⟩
theorem L_gaps {e0 mi c q m r nc ns : Nat} {w : Wd} {x1 : Int32} {Q' : Nat → Nat → Int32 → Wd → Prop} (J : Jn e0 c w q m r nc ns) (hc : c < 512)
    (hQ : ∀ k8 k9 i w7, bw_is w7 m 6 → (∀ K : Wd → Prop, (∀ w18, Aft e0 c i w18 q m r (nc - k8) (ns - k9) → K w18) → wp_Mo_gaps e0 mi m x1 w7 K) → Q' k8 k9 i w7) : ∃ k8 k9, k8 ≤ nc ∧ k9 ≤ ns ∧ wp_La_gaps e0 mi (some q) x1 w k8 k9 (Q' k8 k9) := by
  obtain ⟨S, A, P, LE, LW, R, M, hS, h9, hp, hr, hA, n1, n2⟩ := J
  have few := us_few R hS (by omega)
  refine ⟨10, 64, by omega, by omega, q, rfl, R.1.1, 10, 64, Nat.le_refl _, Nat.le_refl _, B_gaps R hS (by omega) (by omega) (fun z => ⟨rfl, hQ 10 64 1 w M.1.1 (fun K hK => N_gaps M (fun _ w' p => hK w' (Jn_mk R hS h9 M.1 p (by omega) hp hr hA n1 n2 (by omega) (by omega))) (fun z2 => absurd z2 z))⟩) (fun z w7 R7 F7 => ?_)⟩
  have M7 := RM_frC M F7
  have o : okS (um S 2 0 x1) := ok_um hS (by unfold okSlot; decide) _ _
  have u := us_um S 2 0 x1
  exact hQ 10 64 0 w7 M7.1.1 (fun K hK => N_gaps M7 (fun z2 => absurd z z2) (fun _ w' p => hK w' (Jn_mk R7 o (n9_um h9 (by decide) _ _) M7.1 p (Nat.le_trans (phi_um (by decide) _ _) (by omega)) hp (res_frC hr F7).1 hA n1 n2 (by omega) (by omega))))
