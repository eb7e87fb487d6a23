section
/-! THE JOINT WORD OF THE LAW'S LOOP, AND THE ROOM -/
theorem cc_le : ∀ n, cc n ≤ n
  | 0 => Nat.le_refl _
  | n + 1 => by
    have := cc_le n
    show cc n + gC n n ≤ n + 1
    have g : gC n n ≤ 1 := by unfold gC; split <;> omega
    omega
theorem cs_le : ∀ n, cs n ≤ 4 * cap n
  | 0 => Nat.zero_le _
  | n + 1 => by
    have ih := cs_le n
    show cs n + gS n n ≤ 4 * cap (n + 1)
    have hc := cap_facts n
    have e : cap (n + 1) = if n < cap n then cap n else (if n = 0 then 10 else n + n / 2) := rfl
    unfold gS
    rw [show max n (n + 1) = n + 1 by omega]
    by_cases h : n = cap n
    · rw [if_pos h]
      rw [if_neg (by omega)] at e
      by_cases h0 : n = 0
      · rw [if_pos h0] at e
        rw [e]
        have : cap n = 0 := by omega
        omega
      · rw [if_neg h0] at e
        rw [e]
        have := hc.2.2 (by omega)
        omega
    · rw [if_neg h]
      rw [if_pos (by omega)] at e
      rw [e]
      omega
theorem gos_le {S : St} (hS : okS S) : (gos S).length ≤ 60 :=
  Nat.le_trans (nodup_le (nT S) _ hS.2.2.2.2.2.2.1.1 (fun i hi => ⟨(hS.2.2.2.2.2.2.1.2 i hi).1, (hS.2.2.2.2.2.2.1.2 i hi).2.1⟩)) hS.1.2.1
theorem us_few {e0 : Nat} {S : St} {w : Wd} {q : Nat} {P : Nat → Nat → Nat} {LE LW : List (Nat × Ed)} (R : RC e0 S w q P LE LW) (hS : okS S) (hp : Phi S < 2900) : usC S ≤ 20000 ∧ usS S ≤ 200000 := by
  have hx : wX S ≤ 10000 := (R.2.1.1 4 (by decide)).2.2.2.1
  have hg := gos_le hS
  obtain ⟨h1, h2, h3⟩ := hS.1
  have he : (eds S).length + (wts S).length ≤ Phi S := by unfold Phi; omega
  have a1 := cc_le (nB S)
  have a2 := cc_le (nT S)
  have a3 := cc_le (nS S)
  have a4 := cc_le (eds S).length
  have a5 := cc_le (wX S)
  have a6 := cc_le (gos S).length
  have b1 := cs_le (nB S)
  have b2 := cs_le (nT S)
  have b3 := cs_le (nS S)
  have b4 := cs_le (eds S).length
  have b5 := cs_le (wX S)
  have b6 := cs_le (gos S).length
  have d1 := (cap_facts (nB S)).2.1
  have d2 := (cap_facts (nT S)).2.1
  have d3 := (cap_facts (nS S)).2.1
  have d4 := (cap_facts (eds S).length).2.1
  have d5 := (cap_facts (wX S)).2.1
  have d6 := (cap_facts (gos S).length).2.1
  unfold usC usS
  constructor <;> omega
def Jn (e0 c : Nat) (w : Wd) (q m r nc ns : Nat) : Prop := ∃ (S : St) (A : Nat → Nat) (P : Nat → Nat → Nat) (LE LW : List (Nat × Ed)), RC e0 S w q P LE LW ∧ RM S w m A ∧ okS S ∧ ok9 S ∧ Phi S ≤ 720 + 4 * c ∧ isRes w r ∧ (∀ k, 0 < mKd k → A k ≠ r) ∧ 50000 ≤ nc + usC S + 10 * c ∧ 500000 ≤ ns + usS S + 200 * c
theorem Jn_start {e0 : Nat} {w : Wd} {q m r nc ns : Nat} (h : atStart e0 w q m r) (hc : 50000 ≤ nc) (hs : 500000 ≤ ns) : Jn e0 0 w q m r nc ns := by
  obtain ⟨A, B, h1, h2, h3, h4, h5, h6⟩ := h
  exact ⟨S0, A, P00 B, [], [], RC_S0 h1, RM_S0 h2 h3 h4, ok_S0, n9_S0, phi_S0, h5, h6, by omega, by omega⟩
end
section
/-! ONE CALL OF BOTH: gaps, belt -/
def Aft (e0 c : Nat) (i : Int32) (w : Wd) (q m r nc ns : Nat) : Prop := Jn e0 (c + 1) w q m r nc ns ∧ wI w m 0 = i
def AftV (e0 c : Nat) (i v : Int32) (w : Wd) (q m r nc ns : Nat) : Prop := Aft e0 c i w q m r nc ns ∧ (i = 0 → wJ w r 0 = v.toInt64)
theorem Jn_mk {e0 c q m r nc ns k8 k9 : Nat} {S S' : St} {w7 w' : Wd} {A : Nat → Nat} {P : Nat → Nat → Nat} {LE LW : List (Nat × Ed)} {i : Int32} (R : RC e0 S' w7 q P LE LW) (hS : okS S') (h9 : ok9 S') (hM : isM w7 m A) (hp : PM m A S' i w7 w') (hphi : Phi S' ≤ Phi S + 4) (h0 : Phi S ≤ 720 + 4 * c) (hr : isRes w7 r) (hA : ∀ k, 0 < mKd k → A k ≠ r)
    (n1 : 50000 ≤ nc + usC S + 10 * c) (n2 : 500000 ≤ ns + usS S + 200 * c) (u1 : usC S + k8 ≤ usC S' + 10) (u2 : usS S + k9 ≤ usS S' + 200) : Aft e0 c i w' q m r (nc - k8) (ns - k9) := by
  refine ⟨⟨S', A, P, LE, LW, RC_fx (S' := S') R hS hM hp.2.1, hp.1, hS, h9, by omega, (res_fx hr hM hA hp.2.1).1, hA, by omega, by omega⟩, hp.2.2⟩
theorem L_gaps {e0 mi c q m r nc ns : Nat} {w : Wd} {x1 : Int32} {Q' : Nat → Nat → Int32 → Wd → Prop} (J : Jn e0 c w q m r nc ns) (hc : c < 512)
    (hQ : ∀ k8 k9 i w7, bw_is w7 m 6 → (∀ K : Wd → Prop, (∀ w18, Aft e0 c i w18 q m r (nc - k8) (ns - k9) → K w18) → wp_Mo_gaps e0 mi m x1 w7 K) → Q' k8 k9 i w7) : ∃ k8 k9, k8 ≤ nc ∧ k9 ≤ ns ∧ wp_La_gaps e0 mi (some q) x1 w k8 k9 (Q' k8 k9) := by
  obtain ⟨S, A, P, LE, LW, R, M, hS, h9, hp, hr, hA, n1, n2⟩ := J
  have few := us_few R hS (by omega)
  refine ⟨10, 64, by omega, by omega, q, rfl, R.1.1, 10, 64, Nat.le_refl _, Nat.le_refl _, B_gaps R hS (by omega) (by omega) (fun z => ⟨rfl, hQ 10 64 1 w M.1.1 (fun K hK => N_gaps M (fun _ w' p => hK w' (Jn_mk R hS h9 M.1 p (by omega) hp hr hA n1 n2 (by omega) (by omega))) (fun z2 => absurd z2 z))⟩) (fun z w7 R7 F7 => ?_)⟩
  have M7 := RM_frC M F7
  have o : okS (um S 2 0 x1) := ok_um hS (by unfold okSlot; decide) _ _
  have u := us_um S 2 0 x1
  exact hQ 10 64 0 w7 M7.1.1 (fun K hK => N_gaps M7 (fun z2 => absurd z z2) (fun _ w' p => hK w' (Jn_mk R7 o (n9_um h9 (by decide) _ _) M7.1 p (Nat.le_trans (phi_um (by decide) _ _) (by omega)) hp (res_frC hr F7).1 hA n1 n2 (by omega) (by omega))))
end
section
/-! ONE CALL OF BOTH: calls with an answer; belt -/
theorem sJ_at (w : Wd) (r : Nat) (v : Int64) : wJ (sJ w r 0 v) r 0 = v := by rw [pJ_J, if_pos ⟨rfl, rfl⟩]
theorem Jv_mk {e0 c q m r nc ns k8 k9 : Nat} {S S' : St} {w7 w' : Wd} {A : Nat → Nat} {P : Nat → Nat → Nat} {LE LW : List (Nat × Ed)} {v : Int32} (R : RC e0 S' w7 q P LE LW) (hS : okS S') (h9 : ok9 S') (hM : isM w7 m A) (hr : isRes w7 r) (hA : ∀ k, 0 < mKd k → A k ≠ r) (hp : PM m A S' 0 (sJ w7 r 0 v.toInt64) w') (hphi : Phi S' ≤ Phi S + 4) (h0 : Phi S ≤ 720 + 4 * c)
    (n1 : 50000 ≤ nc + usC S + 10 * c) (n2 : 500000 ≤ ns + usS S + 200 * c) (u1 : usC S + k8 ≤ usC S' + 10) (u2 : usS S + k9 ≤ usS S' + 200) : AftV e0 c 0 v w' q m r (nc - k8) (ns - k9) := by
  have hr2 : isRes (sJ w7 r 0 v.toInt64) r := hr
  have hM2 : isM (sJ w7 r 0 v.toInt64) m A := hM
  refine ⟨Jn_mk (RC_row R hS hr) hS h9 hM2 hp hphi h0 hr2 hA n1 n2 u1 u2, fun _ => ?_⟩
  rw [(res_fx hr2 hM2 hA hp.2.1).2]
  exact sJ_at w7 r _
theorem Jx_mk {e0 c q m r nc ns k8 k9 : Nat} {S : St} {w w' : Wd} {A : Nat → Nat} {P : Nat → Nat → Nat} {LE LW : List (Nat × Ed)} {i v : Int32} (hi : ¬ i = 0) (R : RC e0 S w q P LE LW) (hS : okS S) (h9 : ok9 S) (hM : isM w m A) (hr : isRes w r) (hA : ∀ k, 0 < mKd k → A k ≠ r) (hp : PM m A S i w w') (h0 : Phi S ≤ 720 + 4 * c)
    (n1 : 50000 ≤ nc + usC S + 10 * c) (n2 : 500000 ≤ ns + usS S + 200 * c) (u1 : k8 ≤ 10) (u2 : k9 ≤ 200) : AftV e0 c i v w' q m r (nc - k8) (ns - k9) :=
  ⟨Jn_mk R hS h9 hM hp (by omega) h0 hr hA n1 n2 (by omega) (by omega), fun z => absurd z hi⟩
end
section
/-! ONE CALL OF BOTH: belt -/
theorem gC_le (n : Nat) : gC n n ≤ 1 := by unfold gC; split <;> omega
theorem gS_le (n : Nat) : gS n n ≤ 12 + 2 * n := by
  unfold gS
  rw [show max n (n + 1) = n + 1 by omega]
  have := (cap_facts (n + 1)).2.1
  split <;> omega
theorem L_belt {e0 mi c q m r nc ns : Nat} {w : Wd} {x1 x2 : Int32} {Q' : Nat → Nat → Int32 → Wd → Prop} (J : Jn e0 c w q m r nc ns) (hc : c < 512)
    (hQ : ∀ k8 k9 i w7, bw_is w7 m 6 → (∀ K : Int32 → Wd → Prop, (∀ v w18, AftV e0 c i v w18 q m r (nc - k8) (ns - k9) → K v w18) → wp_Mo_belt e0 mi m x1 x2 w7 K) → Q' k8 k9 i w7) : ∃ k8 k9, k8 ≤ nc ∧ k9 ≤ ns ∧ wp_La_belt e0 mi (some q) x1 x2 (some r) w k8 k9 (Q' k8 k9) := by
  obtain ⟨S, A, P, LE, LW, R, M, hS, h9, hp, hr, hA, n1, n2⟩ := J
  have few := us_few R hS (by omega)
  have b8 := hS.1.1
  have g1 := gC_le (nB S)
  have g2 := gS_le (nB S)
  refine ⟨7, 68, by omega, by omega, q, rfl, R.1.1, 7, 68, Nat.le_refl _, Nat.le_refl _, B_belt R hS h9 (by omega) (by omega) (fun z => Or.inl ⟨rfl, hQ 7 68 1 w M.1.1 (fun K hK => N_belt M hS (fun _ w' p => hK _ w' (Jx_mk (by decide) R hS h9 M.1 hr hA p hp n1 n2 (by omega) (by omega))) (fun z2 => absurd z2 z) (fun z2 => absurd z2 z))⟩) (fun z z1 => Or.inr ⟨rfl, hQ 7 68 2 w M.1.1 (fun K hK => N_belt M hS (fun z2 => absurd z z2) (fun _ _ w' p => hK _ w' (Jx_mk (by decide) R hS h9 M.1 hr hA p hp n1 n2 (by omega) (by omega))) (fun _ z2 => absurd z2 (by omega)))⟩) (fun z z1 w7 P' R7 F7 => ?_)⟩
  have M7 := RM_frC M F7
  have r7 := (res_frC hr F7).1
  have u := us_belt S x1 x2
  exact ⟨r, rfl, r7.1, by rw [r7.2]; unfold vp_in; decide, hQ 7 68 0 _ M7.1.1 (fun K hK => N_belt (RM_row M7 hA) hS (fun z2 => absurd z z2) (fun _ z2 => absurd z2 (by omega)) (fun _ _ w' p => hK _ w' (Jv_mk R7 (ok_belt hS z1 x1 x2) (n9_belt h9 x1 x2) M7.1 r7 hA p (Nat.le_trans (phi_belt S x1 x2) (by omega)) hp n1 n2 (by omega) (by omega))))⟩
end
section
/-! ONE CALL OF BOTH: scanner, item -/
theorem L_scanner {e0 mi c q m r nc ns : Nat} {w : Wd} {x1 x2 x3 : Int32} {Q' : Nat → Nat → Int32 → Wd → Prop} (J : Jn e0 c w q m r nc ns) (hc : c < 512)
    (hQ : ∀ k8 k9 i w7, bw_is w7 m 6 → (∀ K : Int32 → Wd → Prop, (∀ v w18, AftV e0 c i v w18 q m r (nc - k8) (ns - k9) → K v w18) → wp_Mo_scanner e0 mi m x1 x2 x3 w7 K) → Q' k8 k9 i w7) : ∃ k8 k9, k8 ≤ nc ∧ k9 ≤ ns ∧ wp_La_scanner e0 mi (some q) x1 x2 x3 (some r) w k8 k9 (Q' k8 k9) := by
  obtain ⟨S, A, P, LE, LW, R, M, hS, h9, hp, hr, hA, n1, n2⟩ := J
  have few := us_few R hS (by omega)
  have s4 := hS.1.2.2
  have b8 := hS.1.1
  have g1 := gC_le (nS S)
  have g2 := gS_le (nS S)
  have inj : ∀ {b b2 : Nat}, b < nB S → b2 < nB S → x1 = nI b → x1 = nI b2 → b2 = b := fun hb hb2 e1 e2 => ((nI_eq (by omega) (by omega)).mp (e1.symm.trans e2)).symm
  have X : ∀ (i : Int32) {v : Int32} {w'}, ¬ i = 0 → PM m A S i w w' → AftV e0 c i v w' q m r (nc - 6) (ns - 60) := fun i v w' hi p => Jx_mk hi R hS h9 M.1 hr hA p hp n1 n2 (by omega) (by omega)
  refine ⟨6, 60, by omega, by omega, q, rfl, R.1.1, 6, 60, Nat.le_refl _, Nat.le_refl _, B_scanner R hS (by omega) (by omega) (fun z => Or.inl ⟨rfl, hQ 6 60 1 w M.1.1 (fun K hK => N_scanner M hS (fun _ w' p => hK _ w' (X 1 (by decide) p)) (fun b hb hx => absurd ⟨b, hb, hx⟩ z) (fun b hb hx => absurd ⟨b, hb, hx⟩ z) (fun b hb hx => absurd ⟨b, hb, hx⟩ z))⟩)
    (fun b hb hx z => Or.inr (Or.inl ⟨rfl, hQ 6 60 2 w M.1.1 (fun K hK => N_scanner M hS (fun z2 => absurd ⟨b, hb, hx⟩ z2) (fun _ _ _ _ w' p => hK _ w' (X 2 (by decide) p)) (fun b2 hb2 hx2 z2 => absurd (inj hb hb2 hx hx2 ▸ z2) z) (fun b2 hb2 hx2 z2 => absurd (inj hb hb2 hx hx2 ▸ z2) z))⟩))
    (fun b hb hx z z1 => Or.inr (Or.inr ⟨rfl, hQ 6 60 3 w M.1.1 (fun K hK => N_scanner M hS (fun z2 => absurd ⟨b, hb, hx⟩ z2) (fun b2 hb2 hx2 z2 => absurd z (inj hb hb2 hx hx2 ▸ z2)) (fun _ _ _ _ _ w' p => hK _ w' (X 3 (by decide) p)) (fun _ _ _ _ z2 => absurd z2 (by omega)))⟩))
    (fun b hb hx z z1 w7 P' R7 F7 => ?_)⟩
  have M7 := RM_frC M F7
  have r7 := (res_frC hr F7).1
  have u := us_scan S (nI b) x2 x3
  refine ⟨r, rfl, r7.1, by rw [r7.2]; unfold vp_in; decide, hQ 6 60 0 _ M7.1.1 (fun K hK => N_scanner (RM_row M7 hA) hS (fun z2 => absurd ⟨b, hb, hx⟩ z2) (fun b2 hb2 hx2 z2 => absurd z (inj hb hb2 hx hx2 ▸ z2)) (fun _ _ _ _ z2 => absurd z2 (by omega)) (fun b2 hb2 hx2 _ _ w' p => hK _ w' ?_))⟩
  have e := inj hb hb2 hx hx2
  subst e
  exact Jv_mk R7 (ok_scan hS z1 hb x2 x3) (n9_scan h9 _ x2 x3) M7.1 r7 hA p (Nat.le_trans (phi_scan S z1 _ x2 x3) (by omega)) hp n1 n2 (by omega) (by omega)
end
section
/-! ONE CALL OF BOTH: item, join -/
theorem L_item {e0 mi c q m r nc ns : Nat} {w : Wd} {x1 x2 : Int32} {Q' : Nat → Nat → Int32 → Wd → Prop} (J : Jn e0 c w q m r nc ns) (hc : c < 512)
    (hQ : ∀ k8 k9 i w7, bw_is w7 m 6 → (∀ K : Int32 → Wd → Prop, (∀ v w18, AftV e0 c i v w18 q m r (nc - k8) (ns - k9) → K v w18) → wp_Mo_item e0 mi m x1 x2 w7 K) → Q' k8 k9 i w7) : ∃ k8 k9, k8 ≤ nc ∧ k9 ≤ ns ∧ wp_La_item e0 mi (some q) x1 x2 (some r) w k8 k9 (Q' k8 k9) := by
  obtain ⟨S, A, P, LE, LW, R, M, hS, h9, hp, hr, hA, n1, n2⟩ := J
  have few := us_few R hS (by omega)
  have t60 := hS.1.2.1
  have b8 := hS.1.1
  have g1 := gC_le (nT S)
  have g2 := gS_le (nT S)
  have inj : ∀ {b b2 : Nat}, b < nB S → b2 < nB S → x1 = nI b → x1 = nI b2 → b2 = b := fun hb hb2 e1 e2 => ((nI_eq (by omega) (by omega)).mp (e1.symm.trans e2)).symm
  have X : ∀ (i : Int32) {v : Int32} {w'}, ¬ i = 0 → PM m A S i w w' → AftV e0 c i v w' q m r (nc - 6) (ns - 180) := fun i v w' hi p => Jx_mk hi R hS h9 M.1 hr hA p hp n1 n2 (by omega) (by omega)
  refine ⟨6, 180, by omega, by omega, q, rfl, R.1.1, 6, 180, Nat.le_refl _, Nat.le_refl _, B_item R hS (by omega) (by omega)
    (fun z => Or.inl ⟨rfl, hQ 6 180 1 w M.1.1 (fun K hK => N_item M hS (fun _ w' p => hK _ w' (X 1 (by decide) p)) (fun y => absurd y z) (fun y => absurd y z) (fun b hb hx => absurd ⟨b, hb, hx⟩ z) (fun b hb hx => absurd ⟨b, hb, hx⟩ z))⟩)
    (fun y z => Or.inr (Or.inl ⟨rfl, hQ 6 180 2 w M.1.1 (fun K hK => N_item M hS (fun z2 => absurd y z2) (fun _ _ w' p => hK _ w' (X 2 (by decide) p)) (fun _ z2 => absurd z2 z) (fun _ _ _ z2 => absurd z2 z) (fun _ _ _ z2 => absurd z2 z))⟩))
    (fun y z z1 => Or.inr (Or.inr ⟨rfl, hQ 6 180 3 w M.1.1 (fun K hK => N_item M hS (fun z2 => absurd y z2) (fun _ z2 => absurd z z2) (fun _ _ _ w' p => hK _ w' (X 3 (by decide) p)) (fun _ _ _ _ z2 => absurd z2 (by omega)) (fun _ _ _ _ z2 => absurd z2 (by omega)))⟩))
    (fun b hb hx z z1 z4 => ?_) (fun b hb hx z z1 z4 w7 P' R7 F7 => ?_)⟩
  · refine ⟨r, rfl, hr.1, by rw [hr.2]; unfold vp_in; decide, hQ 6 180 0 _ M.1.1 (fun K hK => N_item (RM_row M hA) hS (fun z2 => absurd ⟨b, hb, hx⟩ z2) (fun _ z2 => absurd z z2) (fun _ _ z2 => absurd z2 (by omega)) (fun b2 hb2 hx2 _ _ _ w' p => hK _ w' ?_) (fun b2 hb2 hx2 _ _ z5 => absurd z4 (inj hb hb2 hx hx2 ▸ z5)))⟩
    have e := inj hb hb2 hx hx2
    subst e
    exact Jv_mk R hS h9 M.1 hr hA p (by omega) hp n1 n2 (by omega) (by omega)
  · have M7 := RM_frC M F7
    have r7 := (res_frC hr F7).1
    have u := us_item S b x2
    refine ⟨r, rfl, r7.1, by rw [r7.2]; unfold vp_in; decide, hQ 6 180 0 _ M7.1.1 (fun K hK => N_item (RM_row M7 hA) hS (fun z2 => absurd ⟨b, hb, hx⟩ z2) (fun _ z2 => absurd z z2) (fun _ _ z2 => absurd z2 (by omega)) (fun b2 hb2 hx2 _ _ z5 => absurd (inj hb hb2 hx hx2 ▸ z5) z4) (fun b2 hb2 hx2 _ _ _ w' p => hK _ w' ?_))⟩
    have e := inj hb hb2 hx hx2
    subst e
    exact Jv_mk R7 (ok_item hS z1 hb x2) (n9_item h9 _ x2) M7.1 r7 hA p (Nat.le_trans (phi_item _ x2) (by omega)) hp n1 n2 (by omega) (by omega)
end
section
/-! ONE CALL OF BOTH: join -/
theorem L_join {e0 mi c q m r nc ns : Nat} {w : Wd} {x1 x2 x3 x4 : Int32} {Q' : Nat → Nat → Int32 → Wd → Prop} (J : Jn e0 c w q m r nc ns) (hc : c < 512)
    (hQ : ∀ k8 k9 i w7, bw_is w7 m 6 → (∀ K : Int32 → Wd → Prop, (∀ v w18, AftV e0 c i v w18 q m r (nc - k8) (ns - k9) → K v w18) → wp_Mo_join e0 mi m x1 x2 x3 x4 w7 K) → Q' k8 k9 i w7) : ∃ k8 k9, k8 ≤ nc ∧ k9 ≤ ns ∧ wp_La_join e0 mi (some q) x1 x2 x3 x4 (some r) w k8 k9 (Q' k8 k9) := by
  obtain ⟨S, A, P, LE, LW, R, M, hS, h9, hp, hr, hA, n1, n2⟩ := J
  have few := us_few R hS (by omega)
  have b8 := hS.1.1
  have inj : ∀ {x : Int32} {b b2 : Nat}, b < nB S → b2 < nB S → x = nI b → x = nI b2 → b2 = b := fun hb hb2 e1 e2 => ((nI_eq (by omega) (by omega)).mp (e1.symm.trans e2)).symm
  have X : ∀ (i : Int32) {v : Int32} {w'}, ¬ i = 0 → PM m A S i w w' → AftV e0 c i v w' q m r (nc - 6) (ns - 60) := fun i v w' hi p => Jx_mk hi R hS h9 M.1 hr hA p hp n1 n2 (by omega) (by omega)
  refine ⟨6, 60, by omega, by omega, q, rfl, R.1.1, 6, 60, Nat.le_refl _, Nat.le_refl _, B_join R hS (by omega) (by omega)
    (fun z => Or.inl ⟨rfl, hQ 6 60 1 w M.1.1 (fun K hK => N_join M hS (fun _ w' p => hK _ w' (X 1 (by decide) p)) (fun b t hb hx ht hx3 => absurd ⟨⟨b, hb, hx⟩, ⟨t, ht, hx3⟩⟩ z) (fun b t y hb hx ht hx3 => absurd ⟨⟨b, hb, hx⟩, ⟨t, ht, hx3⟩⟩ z))⟩)
    (fun b t hb hx ht hx3 z => Or.inr ⟨rfl, hQ 6 60 2 w M.1.1 (fun K hK => N_join M hS (fun z2 => absurd ⟨⟨b, hb, hx⟩, ⟨t, ht, hx3⟩⟩ z2) (fun _ _ _ _ _ _ _ w' p => hK _ w' (X 2 (by decide) p)) (fun b2 t2 y hb2 hx2 ht2 hx32 _ _ r1 r2 lt => absurd ⟨r1, r2, (inj hb hb2 hx hx2 ▸ inj ht ht2 hx3 hx32 ▸ lt)⟩ z))⟩)
    (fun b t y hb hx ht hx3 hy hxy r1 r2 lt w7 R7 F7 => ?_)⟩
  have M7 := RM_frC M F7
  have r7 := (res_frC hr F7).1
  have u := us_join S (2 * b + y) t x4
  refine ⟨r, rfl, r7.1, by rw [r7.2]; unfold vp_in; decide, hQ 6 60 0 _ M7.1.1 (fun K hK => N_join (RM_row M7 hA) hS (fun z2 => absurd ⟨⟨b, hb, hx⟩, ⟨t, ht, hx3⟩⟩ z2) (fun b2 t2 hb2 hx2 ht2 hx32 z2 => absurd ⟨r1, r2, ?_⟩ z2) (fun b2 t2 y2 hb2 hx2 ht2 hx32 hy2 hxy2 _ _ _ w' p => hK _ w' ?_))⟩
  · have e1 := inj hb hb2 hx hx2
    have e2 := inj ht ht2 hx3 hx32
    have e3 : y2 = y := ((nI_eq (by omega) (by omega)).mp (hxy.symm.trans hxy2)).symm
    subst e1 e2 e3
    exact Jv_mk R7 (ok_join hS hb hy lt ht x4) (n9_join h9 _ _ x4) M7.1 r7 hA p (Nat.le_trans (phi_join S _ _ x4) (by omega)) hp n1 n2 (by omega) (by omega)
  · rw [inj hb hb2 hx hx2, inj ht ht2 hx3 hx32]; exact lt
end
section
/-! ONE CALL OF BOTH: run -/
theorem L_run {e0 mi c q m r nc ns : Nat} {w : Wd} {x1 x2 x3 : Int32} {Q' : Nat → Nat → Int32 → Wd → Prop} (J : Jn e0 c w q m r nc ns) (hc : c < 512) (hb3 : bw_b x3)
    (hQ : ∀ k8 k9 i w7, bw_is w7 m 6 → (∀ K : Wd → Prop, (∀ w18, Aft e0 c i w18 q m r (nc - k8) (ns - k9) → K w18) → wp_Mo_run e0 mi m x1 x2 x3 w7 K) → Q' k8 k9 i w7) : ∃ k8 k9, k8 ≤ nc ∧ k9 ≤ ns ∧ wp_La_run e0 mi (some q) x1 x2 x3 w k8 k9 (Q' k8 k9) := by
  obtain ⟨S, A, P, LE, LW, R, M, hS, h9, hp, hr, hA, n1, n2⟩ := J
  have few := us_few R hS (by omega)
  have b8 := hS.1.1
  have inj : ∀ {b b2 : Nat}, b < nB S → b2 < nB S → x1 = nI b → x1 = nI b2 → b2 = b := fun hb hb2 e1 e2 => ((nI_eq (by omega) (by omega)).mp (e1.symm.trans e2)).symm
  have X : ∀ (i : Int32) {w'}, PM m A S i w w' → Aft e0 c i w' q m r (nc - 6) (ns - 60) := fun i w' p => Jn_mk R hS h9 M.1 p (by omega) hp hr hA n1 n2 (by omega) (by omega)
  refine ⟨6, 60, by omega, by omega, q, rfl, R.1.1, 6, 60, Nat.le_refl _, Nat.le_refl _, B_run R hS (by omega) (by omega) hb3
    (fun z => Or.inl ⟨rfl, hQ 6 60 1 w M.1.1 (fun K hK => N_run M hS hb3 (fun _ w' p => hK w' (X 1 p)) (fun y => absurd y z) (fun b hb hx => absurd ⟨b, hb, hx⟩ z))⟩)
    (fun y z => Or.inr ⟨rfl, hQ 6 60 2 w M.1.1 (fun K hK => N_run M hS hb3 (fun z2 => absurd y z2) (fun _ _ w' p => hK w' (X 2 p)) (fun _ _ _ z2 => absurd z2 z))⟩)
    (fun b hb hx z w7 R7 F7 => ?_)⟩
  have M7 := RM_frC M F7
  have r7 := (res_frC hr F7).1
  have u := us_um S 5 b x2
  have u2 := us_um (um S 5 b x2) 6 b x3
  refine hQ 6 60 0 w7 M7.1.1 (fun K hK => N_run M7 hS hb3 (fun z2 => absurd ⟨b, hb, hx⟩ z2) (fun _ z2 => absurd z z2) (fun b2 hb2 hx2 _ w' p => hK w' ?_))
  have e := inj hb hb2 hx hx2
  subst e
  exact Jn_mk R7 (ok_um (ok_um hS (by unfold okSlot; decide) _ _) (by unfold okSlot; decide) _ _) (n9_um (n9_um h9 (by decide) _ _) (by decide) _ _) M7.1 p (Nat.le_trans (phi_um (by decide) _ _) (Nat.le_trans (phi_um (by decide) _ _) (by omega))) hp r7 hA n1 n2 (by omega) (by omega)
end
section
/-! ONE CALL OF BOTH: divert, take -/
theorem L_divert {e0 mi c q m r nc ns : Nat} {w : Wd} {x1 x2 : Int32} {Q' : Nat → Nat → Int32 → Wd → Prop} (J : Jn e0 c w q m r nc ns) (hc : c < 512)
    (hQ : ∀ k8 k9 i w7, bw_is w7 m 6 → (∀ K : Int32 → Wd → Prop, (∀ v w18, AftV e0 c i v w18 q m r (nc - k8) (ns - k9) → K v w18) → wp_Mo_divert e0 mi m x1 x2 w7 K) → Q' k8 k9 i w7) : ∃ k8 k9, k8 ≤ nc ∧ k9 ≤ ns ∧ wp_La_divert e0 mi (some q) x1 x2 (some r) w k8 k9 (Q' k8 k9) := by
  obtain ⟨S, A, P, LE, LW, R, M, hS, h9, hp, hr, hA, n1, n2⟩ := J
  have few := us_few R hS (by omega)
  have t60 := hS.1.2.1
  have inj : ∀ {b b2 : Nat}, b ≤ nT S → b2 ≤ nT S → x1 = nI b → x1 = nI b2 → b2 = b := fun hb hb2 e1 e2 => ((nI_eq (by omega) (by omega)).mp (e1.symm.trans e2)).symm
  have X : ∀ (i : Int32) {v : Int32} {w'}, ¬ i = 0 → PM m A S i w w' → AftV e0 c i v w' q m r (nc - 6) (ns - 60) := fun i v w' hi p => Jx_mk hi R hS h9 M.1 hr hA p hp n1 n2 (by omega) (by omega)
  refine ⟨6, 60, by omega, by omega, q, rfl, R.1.1, 6, 60, Nat.le_refl _, Nat.le_refl _, B_divert R hS (by omega) (by omega)
    (fun z => Or.inl ⟨rfl, hQ 6 60 1 w M.1.1 (fun K hK => N_divert M hS (fun _ w' p => hK _ w' (X 1 (by decide) p)) (fun y => absurd y z) (fun i a b hx => absurd ⟨i, a, b, hx⟩ z) (fun i a b hx => absurd ⟨i, a, b, hx⟩ z))⟩)
    (fun y z => Or.inr (Or.inl ⟨rfl, hQ 6 60 2 w M.1.1 (fun K hK => N_divert M hS (fun z2 => absurd y z2) (fun _ _ w' p => hK _ w' (X 2 (by decide) p)) (fun _ _ _ _ z2 => absurd z2 z) (fun _ _ _ _ z2 => absurd z2 z))⟩))
    (fun i i1 i2' hx z z3 => Or.inr (Or.inr ⟨rfl, hQ 6 60 3 w M.1.1 (fun K hK => N_divert M hS (fun z2 => absurd ⟨i, i1, i2', hx⟩ z2) (fun _ z2 => absurd z z2) (fun _ _ _ _ _ _ w' p => hK _ w' (X 3 (by decide) p)) (fun j _ j2 hx2 _ z5 => absurd (inj i2' j2 hx hx2 ▸ z5) z3))⟩))
    (fun i i1 i2' hx z z3 w7 R7 F7 => ?_)⟩
  have M7 := RM_frC M F7
  have r7 := (res_frC hr F7).1
  have u := us_um S 17 i x2
  have u2 := us_um (um S 17 i x2) 18 i 1
  refine ⟨r, rfl, r7.1, by rw [r7.2]; unfold vp_in; decide, hQ 6 60 0 _ M7.1.1 (fun K hK => N_divert (RM_row M7 hA) hS (fun z2 => absurd ⟨i, i1, i2', hx⟩ z2) (fun _ z2 => absurd z z2) (fun j _ j2 hx2 _ z5 => absurd z3 (inj i2' j2 hx hx2 ▸ z5)) (fun j j1 j2 hx2 _ _ w' p => hK _ w' ?_))⟩
  have e := inj i2' j2 hx hx2
  subst e
  exact Jv_mk R7 (ok_div hS (rng01 z) _) (n9_um (n9_um h9 (by decide) _ _) (by decide) _ _) M7.1 r7 hA p (Nat.le_trans (phi_div S _ _ _) (by omega)) hp n1 n2 (by omega) (by omega)
end
section
/-! ONE CALL OF BOTH: step -/
theorem wx_mv1 (S : St) (b : Nat) (most : Int32) (i : Nat) : wX (mv1S S b most i) = max (wX S) (wts (mv1S S b most i)).length ∧ (wts S).length ≤ (wts (mv1S S b most i)).length := by
  unfold mv1S waitS
  rw [wX_uw, wts_uw, wX_um, wX_um, wts_um, wts_um]
  refine ⟨rfl, ?_⟩
  rw [List.length_append]
  omega
theorem wx_mvL {b : Nat} : ∀ (l : List Nat) (S : St) (p : Option Nat), wX (mvLS S b p l) ≤ max (wX S) (wts (mvLS S b p l)).length ∧ (wts S).length ≤ (wts (mvLS S b p l)).length
  | [], S, p => by unfold mvLS; omega
  | i :: t, S, p => by
    have h1 := wx_mv1 S b (mostS S b p) i
    have h2 := wx_mvL (b := b) t (mv1S S b (mostS S b p) i) (some i)
    have e : mvLS S b p (i :: t) = mvLS (mv1S S b (mostS S b p) i) b (some i) t := rfl
    rw [e]
    omega
theorem wx_mvAll (S : St) : ∀ n, wX (mvAllS S n) ≤ max (wX S) (wts (mvAllS S n)).length ∧ (wts S).length ≤ (wts (mvAllS S n)).length
  | 0 => by show wX S ≤ max (wX S) (wts S).length ∧ (wts S).length ≤ (wts S).length; omega
  | n + 1 => by
    have ih := wx_mvAll S n
    by_cases hz : mm (mvAllS S n) 6 n = 0
    · rw [mvAll_no hz]; exact ih
    · rw [mvAll_go hz]
      unfold moveS
      have h2 := wx_mvL (b := n) (rr (mvAllS S n) n) (mvAllS S n) none
      omega
theorem wx_sec (S : St) : wX (secS S) ≤ max (wX S) (wts (secS S)).length := by
  have u2 := (uC_exAll (nB S) (readS (tickS S))).2.2
  have u3 := (wx_mvAll (exAllS (readS (tickS S)) (nB S)) (nB S)).1
  have u0 : wX (readS (tickS S)) = wX S := rfl
  unfold secS
  omega
theorem wx_steps {S : St} {k : Nat} (hf : fewS S k) (h : wX S ≤ 10000) : ∀ j, j ≤ k → wX (stepsS S j) ≤ 10000
  | 0, _ => h
  | j + 1, hj => by
    have ih := wx_steps hf h j (by omega)
    have h1 := wx_sec (stepsS S j)
    have h2 := hf (j + 1) hj
    have e : stepsS S (j + 1) = secS (stepsS S j) := rfl
    rw [e] at h2 ⊢
    omega
theorem us_few2 {S : St} (hx : wX S ≤ 10000) (hS : okS S) (hp : Phi S < 2900) : usC S ≤ 20000 ∧ usS S ≤ 200000 := by
  have hg := gos_le hS
  obtain ⟨h1, h2, h3⟩ := hS.1
  have he : (eds S).length + (wts S).length ≤ Phi S := by unfold Phi; omega
  have a1 := cc_le (nB S)
  have a2 := cc_le (nT S)
  have a3 := cc_le (nS S)
  have a4 := cc_le (eds S).length
  have a5 := cc_le (wX S)
  have a6 := cc_le (gos S).length
  have b1 := cs_le (nB S)
  have b2 := cs_le (nT S)
  have b3 := cs_le (nS S)
  have b4 := cs_le (eds S).length
  have b5 := cs_le (wX S)
  have b6 := cs_le (gos S).length
  have d1 := (cap_facts (nB S)).2.1
  have d2 := (cap_facts (nT S)).2.1
  have d3 := (cap_facts (nS S)).2.1
  have d4 := (cap_facts (eds S).length).2.1
  have d5 := (cap_facts (wX S)).2.1
  have d6 := (cap_facts (gos S).length).2.1
  unfold usC usS
  constructor <;> omega
theorem rng100 {x : Int32} {j : Nat} (hj : j ≤ 100) (hx : x = nI j) : rng x 0 100 := by
  subst hx
  unfold rng
  rw [Int32.lt_iff_toInt_lt, Int32.lt_iff_toInt_lt, nI_toInt (by omega), show (0 : Int32).toInt = 0 by decide, show (100 : Int32).toInt = 100 by decide]
  omega
theorem L_step {e0 mi c q m r nc ns : Nat} {w : Wd} {x1 : Int32} {Q' : Nat → Nat → Int32 → Wd → Prop} (J : Jn e0 c w q m r nc ns) (hc : c < 512)
    (hQ : ∀ k8 k9 i w7, bw_is w7 m 6 → (∀ K : Int32 → Wd → Prop, (∀ v w18, AftV e0 c i v w18 q m r (nc - k8) (ns - k9) → K v w18) → wp_Mo_step e0 mi m x1 w7 K) → Q' k8 k9 i w7) : ∃ k8 k9, k8 ≤ nc ∧ k9 ≤ ns ∧ wp_La_step e0 mi (some q) x1 (some r) w k8 k9 (Q' k8 k9) := by
  obtain ⟨S, A, P, LE, LW, R, M, hS, h9, hp, hr, hA, n1, n2⟩ := J
  have few := us_few R hS (by omega)
  have hph : Phi S < 2900 := by omega
  by_cases z : rng x1 0 100
  · obtain ⟨k, hk, hx⟩ := nI_of2 (M := 100) (n := 100) (by decide) z.1 (Int32.not_lt.mp z.2)
    have mo := uC_stepsM (wx_ge R) k 0
    rw [Nat.zero_add, show stepsS S 0 = S from rfl] at mo
    have hpk := phi_steps hS k
    have hok := (ok_steps hS k).1
    have few2 := us_few2 (wx_steps (few_of_phi hS hph k) (R.2.1.1 4 (by decide)).2.2.2.1 k (Nat.le_refl k)) hok (by omega)
    have inj : ∀ j, j ≤ 100 → x1 = nI j → j = k := fun j hj hx2 => (nI_eq (by omega) (by omega)).mp (hx2.symm.trans hx)
    refine ⟨usC (stepsS S k) - usC S, usS (stepsS S k) - usS S, by omega, by omega, q, rfl, R.1.1, _, _, Nat.le_refl _, Nat.le_refl _, B_step R hS hph (fun y => absurd z y) (fun j hj hx2 => by rw [inj j hj hx2]; omega) (fun j hj hx2 w7 P' LE' LW' R7 F7 => ?_)⟩
    have ej := inj j hj hx2
    subst ej
    have M7 := RM_frC M F7
    have r7 := (res_frC hr F7).1
    refine ⟨r, rfl, r7.1, by rw [r7.2]; unfold vp_in; decide, hQ _ _ 0 _ M7.1.1 (fun K hK => N_step (RM_row M7 hA) hS hph (fun y => absurd z y) (fun i hi hx3 w' p => hK _ w' ?_))⟩
    have ei := inj i hi hx3
    subst ei
    exact Jv_mk R7 hok (n9_steps h9 hS _) M7.1 r7 hA p (by omega) hp n1 n2 (by omega) (by omega)
  · exact ⟨1, 6, by omega, by omega, q, rfl, R.1.1, 1, 6, Nat.le_refl _, Nat.le_refl _, B_step R hS hph (fun _ => ⟨Nat.le_refl _, Nat.le_refl _, rfl, hQ 1 6 1 w M.1.1 (fun K hK => N_step M hS hph (fun _ w' p => hK _ w' (Jx_mk (by decide) R hS h9 M.1 hr hA p hp n1 n2 (by omega) (by omega))) (fun j hj hx2 => absurd (rng100 hj hx2) z))⟩) (fun j hj hx2 => absurd (rng100 hj hx2) z) (fun j hj hx2 => absurd (rng100 hj hx2) z)⟩
end
section
/-! ONE CALL OF BOTH: edge -/
theorem L_edge {e0 mi c q m r nc ns : Nat} {w : Wd} {x1 x2 : Int32} {Q' : Nat → Nat → Int32 → Wd → Prop} (J : Jn e0 c w q m r nc ns) (hc : c < 512)
    (hQ : ∀ k8 k9 i w7, bw_is w7 m 6 → (∀ K : Int32 → Wd → Prop, (∀ v w18, AftV e0 c i v w18 q m r (nc - k8) (ns - k9) → K v w18) → wp_Mo_edge e0 mi m x1 x2 w7 K) → Q' k8 k9 i w7) : ∃ k8 k9, k8 ≤ nc ∧ k9 ≤ ns ∧ wp_La_edge e0 mi (some q) x1 x2 (some r) w k8 k9 (Q' k8 k9) := by
  obtain ⟨S, A, P, LE, LW, R, M, hS, h9, hp, hr, hA, n1, n2⟩ := J
  have few := us_few R hS (by omega)
  have hel : (eds S).length < 2900 := by have : (eds S).length ≤ Phi S := (by unfold Phi; omega); omega
  have inj : ∀ {j j2 : Nat}, j < (eds S).length → j2 < (eds S).length → x1 = nI j → x1 = nI j2 → j2 = j := fun hb hb2 e1 e2 => ((nI_eq (by omega) (by omega)).mp (e1.symm.trans e2)).symm
  have lt : ∀ {j : Nat} {e : Ed}, (eds S)[j]? = some e → j < (eds S).length := fun h => (List.getElem?_eq_some_iff.mp h).1
  have X : ∀ (i : Int32) {v : Int32} {w'}, ¬ i = 0 → PM m A S i w w' → AftV e0 c i v w' q m r (nc - 6) (ns - 60) := fun i v w' hi p => Jx_mk hi R hS h9 M.1 hr hA p hp n1 n2 (by omega) (by omega)
  have G : ∀ v : Int32, (∀ K : Int32 → Wd → Prop, (∀ w', PM m A S 0 (sJ w r 0 v.toInt64) w' → K v w') → wp_Mo_edge e0 mi m x1 x2 (sJ w r 0 v.toInt64) K) → (∃ a10 : Nat, some r = some a10 ∧ (bw_is w a10 102 ∧ (vp_in (0 : Int32) (wN w a10) ∧ (Q' 6 60 (0 : Int32) (sJ w a10 (0 : Int32).toNatClampNeg v.toInt64))))) := fun v hv => ⟨r, rfl, hr.1, by rw [hr.2]; unfold vp_in; decide, hQ 6 60 0 _ M.1.1 (fun K hK => hv K (fun w' p => hK _ w' (Jv_mk R hS h9 M.1 hr hA p (by omega) hp n1 n2 (by omega) (by omega))))⟩
  refine ⟨6, 60, by omega, by omega, q, rfl, R.1.1, 6, 60, Nat.le_refl _, Nat.le_refl _, B_edge R (by omega) (by omega) (by omega)
    (fun z => Or.inl ⟨rfl, hQ 6 60 1 w M.1.1 (fun K hK => N_edge M hS (by omega) (fun _ w' p => hK _ w' (X 1 (by decide) p)) (fun y => absurd y z) (fun j e he hx => absurd ⟨j, lt he, hx⟩ z))⟩)
    (fun y z => Or.inr ⟨rfl, hQ 6 60 2 w M.1.1 (fun K hK => N_edge M hS (by omega) (fun z2 => absurd y z2) (fun _ _ w' p => hK _ w' (X 2 (by decide) p)) (fun j e he hx w' p => ?_))⟩)
    (fun j e he hx => ?_)⟩
  · refine ⟨fun y2 => ?_, fun y2 => ?_, fun y2 => ?_, fun y2 => ?_⟩ <;> (subst y2; exact absurd z (by decide))
  · refine ⟨fun y => ?_, fun y => ?_, fun y => ?_, fun y => ?_⟩ <;> (subst y; refine G _ (fun K hK => N_edge (RM_row M hA) hS (by omega) (fun z2 => absurd ⟨j, lt he, hx⟩ z2) (fun _ z2 => absurd z2 (by decide)) (fun j2 e2 he2 hx2 w' p => ?_)); have ej := inj (lt he) (lt he2) hx hx2; subst ej; have ee := Option.some.inj (he.symm.trans he2); subst ee; refine ⟨fun z => ?_, fun z => ?_, fun z => ?_, fun z => ?_⟩ <;> first | exact absurd z (by decide) | exact hK w' p)
end
section
/-! ONE CALL OF BOTH: slip -/
theorem pos_uniq {S : St} (hS : okS S) {b c p p2 i : Nat} (h1 : (rr S b)[p]? = some i) (h2 : (rr S c)[p2]? = some i) : c = b ∧ p2 = p := by
  have e := ok_row hS (List.mem_of_getElem? h2) (List.mem_of_getElem? h1)
  subst e
  refine ⟨rfl, ?_⟩
  rcases Nat.lt_trichotomy p2 p with z | z | z
  · exact absurd h2 (nodup_first (hS.2.2.2.1 c) h1 p2 z)
  · exact z
  · exact absurd h1 (nodup_first (hS.2.2.2.1 c) h2 p z)
theorem L_slip {e0 mi c q m r nc ns : Nat} {w : Wd} {x1 x2 : Int32} {Q' : Nat → Nat → Int32 → Wd → Prop} (J : Jn e0 c w q m r nc ns) (hc : c < 512)
    (hQ : ∀ k8 k9 i w7, bw_is w7 m 6 → (∀ K : Int32 → Wd → Prop, (∀ v w18, AftV e0 c i v w18 q m r (nc - k8) (ns - k9) → K v w18) → wp_Mo_slip e0 mi m x1 x2 w7 K) → Q' k8 k9 i w7) : ∃ k8 k9, k8 ≤ nc ∧ k9 ≤ ns ∧ wp_La_slip e0 mi (some q) x1 x2 (some r) w k8 k9 (Q' k8 k9) := by
  obtain ⟨S, A, P, LE, LW, R, M, hS, h9, hp, hr, hA, n1, n2⟩ := J
  have few := us_few R hS (by omega)
  have t60 := hS.1.2.1
  have inj : ∀ {i i2 : Nat}, i ≤ nT S → i2 ≤ nT S → x1 = nI i → x1 = nI i2 → i2 = i := fun hb hb2 e1 e2 => ((nI_eq (by omega) (by omega)).mp (e1.symm.trans e2)).symm
  have on : ∀ {i b p : Nat}, (rr S b)[p]? = some i → 1 ≤ i ∧ i ≤ nT S ∧ mm S 13 i = 0 := fun h => ⟨(hS.2.2.1 _ _ (List.mem_of_getElem? h)).1, (hS.2.2.1 _ _ (List.mem_of_getElem? h)).2.1, (hS.2.2.1 _ _ (List.mem_of_getElem? h)).2.2.1⟩
  have X : ∀ (i : Int32) {v : Int32} {w'}, ¬ i = 0 → PM m A S i w w' → AftV e0 c i v w' q m r (nc - 6) (ns - 60) := fun i v w' hi p => Jx_mk hi R hS h9 M.1 hr hA p hp n1 n2 (by omega) (by omega)
  refine ⟨6, 60, by omega, by omega, q, rfl, R.1.1, 6, 60, Nat.le_refl _, Nat.le_refl _, B_slip R hS (by omega) (by omega)
    (fun z => Or.inl ⟨rfl, hQ 6 60 1 w M.1.1 (fun K hK => N_slip M hS (fun _ w' p => hK _ w' (X 1 (by decide) p)) (fun y => absurd y z) (fun i a b hx => absurd ⟨i, a, b, hx⟩ z) (fun i b p h hx => absurd ⟨i, (on h).1, (on h).2.1, hx⟩ z) (fun i b p h hx => absurd ⟨i, (on h).1, (on h).2.1, hx⟩ z))⟩)
    (fun y z => Or.inr (Or.inl ⟨rfl, hQ 6 60 2 w M.1.1 (fun K hK => N_slip M hS (fun z2 => absurd y z2) (fun _ _ w' p => hK _ w' (X 2 (by decide) p)) (fun _ _ _ _ z2 => absurd z2 z) (fun _ _ _ _ _ z2 => absurd z2 z) (fun _ _ _ _ _ z2 => absurd z2 z))⟩))
    (fun i i1 i2' hx z z3 => Or.inr (Or.inr ⟨rfl, hQ 6 60 3 w M.1.1 (fun K hK => N_slip M hS (fun z2 => absurd ⟨i, i1, i2', hx⟩ z2) (fun _ z2 => absurd z z2) (fun _ _ _ _ _ _ w' p => hK _ w' (X 3 (by decide) p)) (fun j b p hj hx2 _ _ w' p => hK _ w' (X 3 (by decide) p)) (fun j b p hj hx2 => absurd (inj i2' (on hj).2.1 hx hx2 ▸ (on hj).2.2) z3))⟩))
    (fun i b p hi hx z z3 => Or.inr (Or.inr ⟨rfl, hQ 6 60 3 w M.1.1 (fun K hK => N_slip M hS (fun z2 => absurd ⟨i, (on hi).1, (on hi).2.1, hx⟩ z2) (fun _ z2 => absurd z z2) (fun _ _ _ _ _ _ w' p => hK _ w' (X 3 (by decide) p)) (fun _ _ _ _ _ _ _ w' p => hK _ w' (X 3 (by decide) p)) (fun j b2 p2 hj hx2 _ a1 a2 => ?_))⟩))
    (fun i b p hi hx z a1 a2 w7 R7 F7 => ?_)⟩
  · have e := inj (on hi).2.1 (on hj).2.1 hx hx2
    subst e
    obtain ⟨e1, e2⟩ := pos_uniq hS hi hj
    subst e1 e2
    exact absurd ⟨a1, a2⟩ z3
  · have M7 := RM_frC M F7
    have r7 := (res_frC hr F7).1
    have u := us_um S 15 i (mm S 15 i - x2)
    refine ⟨r, rfl, r7.1, by rw [r7.2]; unfold vp_in; decide, hQ 6 60 0 _ M7.1.1 (fun K hK => N_slip (RM_row M7 hA) hS (fun z2 => absurd ⟨i, (on hi).1, (on hi).2.1, hx⟩ z2) (fun _ z2 => absurd z z2) (fun j _ j2 hx2 _ z5 => absurd (inj j2 (on hi).2.1 hx2 hx ▸ (on hi).2.2) z5) (fun j b2 p2 hj hx2 _ z5 => ?_) (fun j b2 p2 hj hx2 _ _ _ w' p => hK _ w' ?_))⟩
    · have e := inj (on hi).2.1 (on hj).2.1 hx hx2
      subst e
      obtain ⟨e1, e2⟩ := pos_uniq hS hi hj
      subst e1 e2
      exact absurd ⟨a1, a2⟩ z5
    · have e := inj (on hi).2.1 (on hj).2.1 hx hx2
      subst e
      exact Jv_mk R7 (ok_um hS (by unfold okSlot; decide) _ _) (n9_um h9 (by decide) _ _) M7.1 r7 hA p (phi_slip (on hi).1 (by have := (on hi).2.1; omega) _) hp n1 n2 (by omega) (by omega)
end
section
/-! ONE CALL OF BOTH: take -/
theorem L_take {e0 mi c q m r nc ns : Nat} {w : Wd} {x1 : Int32} {Q' : Nat → Nat → Int32 → Wd → Prop} (J : Jn e0 c w q m r nc ns) (hc : c < 512)
    (hQ : ∀ k8 k9 i w7, bw_is w7 m 6 → (∀ K : Wd → Prop, (∀ w18, Aft e0 c i w18 q m r (nc - k8) (ns - k9) → K w18) → wp_Mo_take e0 mi m x1 w7 K) → Q' k8 k9 i w7) : ∃ k8 k9, k8 ≤ nc ∧ k9 ≤ ns ∧ wp_La_take e0 mi (some q) x1 w k8 k9 (Q' k8 k9) := by
  obtain ⟨S, A, P, LE, LW, R, M, hS, h9, hp, hr, hA, n1, n2⟩ := J
  have few := us_few R hS (by omega)
  have t60 := hS.1.2.1
  have inj : ∀ {i i2 : Nat}, i ≤ nT S → i2 ≤ nT S → x1 = nI i → x1 = nI i2 → i2 = i := fun hb hb2 e1 e2 => ((nI_eq (by omega) (by omega)).mp (e1.symm.trans e2)).symm
  have on : ∀ {i b p : Nat}, (rr S b)[p]? = some i → 1 ≤ i ∧ i ≤ nT S ∧ mm S 13 i = 0 := fun h => ⟨(hS.2.2.1 _ _ (List.mem_of_getElem? h)).1, (hS.2.2.1 _ _ (List.mem_of_getElem? h)).2.1, (hS.2.2.1 _ _ (List.mem_of_getElem? h)).2.2.1⟩
  have X : ∀ (i : Int32) {w'}, PM m A S i w w' → Aft e0 c i w' q m r (nc - 6) (ns - 60) := fun i w' p => Jn_mk R hS h9 M.1 p (by omega) hp hr hA n1 n2 (by omega) (by omega)
  refine ⟨6, 60, by omega, by omega, q, rfl, R.1.1, 6, 60, Nat.le_refl _, Nat.le_refl _, B_take R hS (by omega) (by omega)
    (fun z => Or.inl ⟨rfl, hQ 6 60 1 w M.1.1 (fun K hK => N_take M hS (fun _ w' p => hK w' (X 1 p)) (fun i a b hx => absurd ⟨i, a, b, hx⟩ z) (fun i b p h hx => absurd ⟨i, (on h).1, (on h).2.1, hx⟩ z))⟩)
    (fun i i1 i2' hx z3 => Or.inr ⟨rfl, hQ 6 60 2 w M.1.1 (fun K hK => N_take M hS (fun z2 => absurd ⟨i, i1, i2', hx⟩ z2) (fun _ _ _ _ _ w' p => hK w' (X 2 p)) (fun j b p hj hx2 => absurd (inj i2' (on hj).2.1 hx hx2 ▸ (on hj).2.2) z3))⟩)
    (fun i b p hi hx w7 R7 F7 => ?_)⟩
  have M7 := RM_frC M F7
  have r7 := (res_frC hr F7).1
  have u := us_leave S b 13 i ((rr S b).eraseIdx p) 2
  refine hQ 6 60 0 w7 M7.1.1 (fun K hK => N_take M7 hS (fun z2 => absurd ⟨i, (on hi).1, (on hi).2.1, hx⟩ z2) (fun j _ j2 hx2 z5 => absurd (inj j2 (on hi).2.1 hx2 hx ▸ (on hi).2.2) z5) (fun j b2 p2 hj hx2 w' p => hK w' ?_))
  have e := inj (on hi).2.1 (on hj).2.1 hx hx2
  subst e
  obtain ⟨e1, e2⟩ := pos_uniq hS hi hj
  subst e1 e2
  exact Jn_mk R7 (ok_leave hS hi (by decide)) (n9_leave h9 _ _ _ _) M7.1 p (Nat.le_trans (phi_leave _ (by decide) (on hi).1 (on hi).2.1) (by omega)) hp r7 hA n1 n2 (by omega) (by omega)
end
section
/-! ONE CALL OF BOTH: clean -/
theorem L_clean {e0 mi c q m r nc ns : Nat} {w : Wd} {x1 : Int32} {Q' : Nat → Nat → Int32 → Wd → Prop} (J : Jn e0 c w q m r nc ns) (hc : c < 512)
    (hQ : ∀ k8 k9 i w7, bw_is w7 m 6 → (∀ K : Int32 → Wd → Prop, (∀ v w18, AftV e0 c i v w18 q m r (nc - k8) (ns - k9) → K v w18) → wp_Mo_clean e0 mi m x1 w7 K) → Q' k8 k9 i w7) : ∃ k8 k9, k8 ≤ nc ∧ k9 ≤ ns ∧ wp_La_clean e0 mi (some q) x1 (some r) w k8 k9 (Q' k8 k9) := by
  obtain ⟨S, A, P, LE, LW, R, M, hS, h9, hp, hr, hA, n1, n2⟩ := J
  have few := us_few R hS (by omega)
  have b8 := hS.1.1
  have inj : ∀ {b b2 : Nat}, b < nB S → b2 < nB S → x1 = nI b → x1 = nI b2 → b2 = b := fun hb hb2 e1 e2 => ((nI_eq (by omega) (by omega)).mp (e1.symm.trans e2)).symm
  have X : ∀ (i : Int32) {v : Int32} {w'}, ¬ i = 0 → PM m A S i w w' → AftV e0 c i v w' q m r (nc - 6) (ns - 60) := fun i v w' hi p => Jx_mk hi R hS h9 M.1 hr hA p hp n1 n2 (by omega) (by omega)
  refine ⟨6, 60, by omega, by omega, q, rfl, R.1.1, 6, 60, Nat.le_refl _, Nat.le_refl _, B_clean R hS (by omega) (by omega)
    (fun z => Or.inl ⟨rfl, hQ 6 60 1 w M.1.1 (fun K hK => N_clean M hS (fun _ w' p => hK _ w' (X 1 (by decide) p)) (fun b hb hx => absurd ⟨b, hb, hx⟩ z) (fun b hb hx => absurd ⟨b, hb, hx⟩ z))⟩)
    (fun b hb hx z3 => Or.inr ⟨rfl, hQ 6 60 2 w M.1.1 (fun K hK => N_clean M hS (fun z2 => absurd ⟨b, hb, hx⟩ z2) (fun _ _ _ _ w' p => hK _ w' (X 2 (by decide) p)) (fun b2 hb2 hx2 z5 => absurd (inj hb hb2 hx hx2 ▸ z5) z3))⟩)
    (fun b hb hx z w7 R7 F7 => ?_)⟩
  have M7 := RM_frC M F7
  have r7 := (res_frC hr F7).1
  have u := us_clean (b := b) (rr S b).length S
  refine ⟨r, rfl, r7.1, by rw [r7.2]; unfold vp_in; decide, hQ 6 60 0 _ M7.1.1 (fun K hK => N_clean (RM_row M7 hA) hS (fun z2 => absurd ⟨b, hb, hx⟩ z2) (fun b2 hb2 hx2 z5 => absurd (inj hb2 hb hx2 hx ▸ z) z5) (fun b2 hb2 hx2 _ w' p => hK _ w' ?_))⟩
  have e := inj hb hb2 hx hx2
  subst e
  exact Jv_mk R7 (ok_clean _ hS) (n9_clean _ h9).1 M7.1 r7 hA p (Nat.le_trans (phi_clean _ hS) (by omega)) hp n1 n2 (by omega) (by omega)
end
section
/-! ONE CALL OF BOTH: order, mean -/
theorem L_order {e0 mi c q m r nc ns : Nat} {w : Wd} {x1 : Int32} {Q' : Nat → Nat → Int32 → Wd → Prop} (J : Jn e0 c w q m r nc ns) (hc : c < 512)
    (hQ : ∀ k8 k9 i w7, bw_is w7 m 6 → (∀ K : Int32 → Wd → Prop, (∀ v w18, AftV e0 c i v w18 q m r (nc - k8) (ns - k9) → K v w18) → wp_Mo_order e0 mi m x1 w7 K) → Q' k8 k9 i w7) : ∃ k8 k9, k8 ≤ nc ∧ k9 ≤ ns ∧ wp_La_order e0 mi (some q) x1 (some r) w k8 k9 (Q' k8 k9) := by
  obtain ⟨S, A, P, LE, LW, R, M, hS, h9, hp, hr, hA, n1, n2⟩ := J
  have few := us_few R hS (by omega)
  have hg := gos_le hS
  have inj : ∀ {j j2 : Nat}, j < (gos S).length → j2 < (gos S).length → x1 = nI j → x1 = nI j2 → j2 = j := fun hb hb2 e1 e2 => ((nI_eq (by omega) (by omega)).mp (e1.symm.trans e2)).symm
  have lt : ∀ {j i : Nat}, (gos S)[j]? = some i → j < (gos S).length := fun h => (List.getElem?_eq_some_iff.mp h).1
  have X : ∀ (i : Int32) {v : Int32} {w'}, ¬ i = 0 → PM m A S i w w' → AftV e0 c i v w' q m r (nc - 6) (ns - 60) := fun i v w' hi p => Jx_mk hi R hS h9 M.1 hr hA p hp n1 n2 (by omega) (by omega)
  have G : ∀ v : Int32, (∀ K : Int32 → Wd → Prop, (∀ w', PM m A S 0 (sJ w r 0 v.toInt64) w' → K v w') → wp_Mo_order e0 mi m x1 (sJ w r 0 v.toInt64) K) → (∃ a10 : Nat, some r = some a10 ∧ (bw_is w a10 102 ∧ (vp_in (0 : Int32) (wN w a10) ∧ (Q' 6 60 (0 : Int32) (sJ w a10 (0 : Int32).toNatClampNeg v.toInt64))))) := fun v hv => ⟨r, rfl, hr.1, by rw [hr.2]; unfold vp_in; decide, hQ 6 60 0 _ M.1.1 (fun K hK => hv K (fun w' p => hK _ w' (Jv_mk R hS h9 M.1 hr hA p (by omega) hp n1 n2 (by omega) (by omega))))⟩
  refine ⟨6, 60, by omega, by omega, q, rfl, R.1.1, 6, 60, Nat.le_refl _, Nat.le_refl _, B_order R hS (by omega) (by omega) (by omega)
    (fun z => ⟨rfl, hQ 6 60 1 w M.1.1 (fun K hK => N_order M hg (fun _ w' p => hK _ w' (X 1 (by decide) p)) (fun j e he hx => absurd ⟨j, lt he, hx⟩ z))⟩)
    (fun j e he hx => G _ (fun K hK => N_order (RM_row M hA) hg (fun z2 => absurd ⟨j, lt he, hx⟩ z2) (fun j2 e2 he2 hx2 w' p => ?_)))⟩
  have ej := inj (lt he) (lt he2) hx hx2
  subst ej
  have ee := Option.some.inj (he.symm.trans he2)
  subst ee
  exact hK w' p
theorem L_mean {e0 mi c q m r nc ns : Nat} {w : Wd} {Q' : Nat → Nat → Int32 → Wd → Prop} (J : Jn e0 c w q m r nc ns) (hc : c < 512)
    (hQ : ∀ k8 k9 i w7, bw_is w7 m 6 → (∀ K : Int32 → Wd → Prop, (∀ v w18, AftV e0 c i v w18 q m r (nc - k8) (ns - k9) → K v w18) → wp_Mo_mean e0 mi m w7 K) → Q' k8 k9 i w7) : ∃ k8 k9, k8 ≤ nc ∧ k9 ≤ ns ∧ wp_La_mean e0 mi (some q) (some r) w k8 k9 (Q' k8 k9) := by
  obtain ⟨S, A, P, LE, LW, R, M, hS, h9, hp, hr, hA, n1, n2⟩ := J
  have few := us_few R hS (by omega)
  have hg := gos_le hS
  have X : ∀ (i : Int32) {v : Int32} {w'}, ¬ i = 0 → PM m A S i w w' → AftV e0 c i v w' q m r (nc - 6) (ns - 60) := fun i v w' hi p => Jx_mk hi R hS h9 M.1 hr hA p hp n1 n2 (by omega) (by omega)
  have G : ∀ v : Int32, (∀ K : Int32 → Wd → Prop, (∀ w', PM m A S 0 (sJ w r 0 v.toInt64) w' → K v w') → wp_Mo_mean e0 mi m (sJ w r 0 v.toInt64) K) → (∃ a10 : Nat, some r = some a10 ∧ (bw_is w a10 102 ∧ (vp_in (0 : Int32) (wN w a10) ∧ (Q' 6 60 (0 : Int32) (sJ w a10 (0 : Int32).toNatClampNeg v.toInt64))))) := fun v hv => ⟨r, rfl, hr.1, by rw [hr.2]; unfold vp_in; decide, hQ 6 60 0 _ M.1.1 (fun K hK => hv K (fun w' p => hK _ w' (Jv_mk R hS h9 M.1 hr hA p (by omega) hp n1 n2 (by omega) (by omega))))⟩
  exact ⟨6, 60, by omega, by omega, q, rfl, R.1.1, 6, 60, Nat.le_refl _, Nat.le_refl _, B_mean R (by omega) (by omega) (by omega)
    (fun z => ⟨rfl, hQ 6 60 1 w M.1.1 (fun K hK => N_mean M hg (fun _ w' p => hK _ w' (X 1 (by decide) p)) (fun z2 => absurd z z2))⟩)
    (fun z => G _ (fun K hK => N_mean (RM_row M hA) hg (fun z2 => absurd z2 z) (fun _ w' p => hK w' p)))⟩
end
section
/-! ONE CALL OF BOTH: known -/
theorem L_known {e0 mi c q m r nc ns : Nat} {w : Wd} {x1 x2 : Int32} {Q' : Nat → Nat → Int32 → Wd → Prop} (J : Jn e0 c w q m r nc ns) (hc : c < 512)
    (hQ : ∀ k8 k9 i w7, bw_is w7 m 6 → (∀ K : Int32 → Wd → Prop, (∀ v w18, AftV e0 c i v w18 q m r (nc - k8) (ns - k9) → K v w18) → wp_Mo_known e0 mi m x1 x2 w7 K) → Q' k8 k9 i w7) : ∃ k8 k9, k8 ≤ nc ∧ k9 ≤ ns ∧ wp_La_known e0 mi (some q) x1 x2 (some r) w k8 k9 (Q' k8 k9) := by
  obtain ⟨S, A, P, LE, LW, R, M, hS, h9, hp, hr, hA, n1, n2⟩ := J
  have few := us_few R hS (by omega)
  have b8 := hS.1.1
  have inj : ∀ {b b2 : Nat}, b < nB S → b2 < nB S → x1 = nI b → x1 = nI b2 → b2 = b := fun hb hb2 e1 e2 => ((nI_eq (by omega) (by omega)).mp (e1.symm.trans e2)).symm
  have X : ∀ (i : Int32) {v : Int32} {w'}, ¬ i = 0 → PM m A S i w w' → AftV e0 c i v w' q m r (nc - 6) (ns - 60) := fun i v w' hi p => Jx_mk hi R hS h9 M.1 hr hA p hp n1 n2 (by omega) (by omega)
  have G : ∀ v : Int32, (∀ K : Int32 → Wd → Prop, (∀ w', PM m A S 0 (sJ w r 0 v.toInt64) w' → K v w') → wp_Mo_known e0 mi m x1 x2 (sJ w r 0 v.toInt64) K) → (∃ a10 : Nat, some r = some a10 ∧ (bw_is w a10 102 ∧ (vp_in (0 : Int32) (wN w a10) ∧ (Q' 6 60 (0 : Int32) (sJ w a10 (0 : Int32).toNatClampNeg v.toInt64))))) := fun v hv => ⟨r, rfl, hr.1, by rw [hr.2]; unfold vp_in; decide, hQ 6 60 0 _ M.1.1 (fun K hK => hv K (fun w' p => hK _ w' (Jv_mk R hS h9 M.1 hr hA p (by omega) hp n1 n2 (by omega) (by omega))))⟩
  refine ⟨6, 60, by omega, by omega, q, rfl, R.1.1, 6, 60, Nat.le_refl _, Nat.le_refl _, B_known R hS (by omega) (by omega)
    (fun z => Or.inl ⟨rfl, hQ 6 60 1 w M.1.1 (fun K hK => N_known M hS (fun _ w' p => hK _ w' (X 1 (by decide) p)) (fun y => absurd y z) (fun b hb hx => absurd ⟨b, hb, hx⟩ z))⟩)
    (fun y z => Or.inr ⟨rfl, hQ 6 60 2 w M.1.1 (fun K hK => N_known M hS (fun z2 => absurd y z2) (fun _ _ w' p => hK _ w' (X 2 (by decide) p)) (fun b hb hx w' p => ?_))⟩)
    (fun b hb hx => ?_)⟩
  · refine ⟨fun y => ?_, fun y => ?_, fun y => ?_, fun y => ?_, fun y => ?_, fun y => ?_, fun y => ?_, fun y => ?_, fun y => ?_⟩ <;> (subst y; exact absurd z (by decide))
  · refine ⟨fun y => ?_, fun y => ?_, fun y => ?_, fun y => ?_, fun y => ?_, fun y => ?_, fun y => ?_, fun y => ?_, fun y => ?_⟩ <;> (subst y; refine G _ (fun K hK => N_known (RM_row M hA) hS (fun z2 => absurd ⟨b, hb, hx⟩ z2) (fun _ z2 => absurd z2 (by decide)) (fun b2 hb2 hx2 w' p => ?_)); have ej := inj hb hb2 hx hx2; subst ej; refine ⟨fun z => ?_, fun z => ?_, fun z => ?_, fun z => ?_, fun z => ?_, fun z => ?_, fun z => ?_, fun z => ?_, fun z => ?_⟩ <;> first | exact absurd z (by decide) | exact hK w' p)
end
section
/-! ONE CALL OF BOTH: told (field 4 of what is out or taken: no word of its answer) -/
theorem L_told {e0 mi c q m r nc ns : Nat} {w : Wd} {x1 x2 : Int32} {Q' : Nat → Nat → Int32 → Wd → Prop} (J : Jn e0 c w q m r nc ns) (hc : c < 512)
    (hQ : ∀ k8 k9 i w7, bw_is w7 m 6 → (∀ K : Int32 → Wd → Prop, (∀ v w18, Aft e0 c i w18 q m r (nc - k8) (ns - k9) → (¬ x2 = 4 → i = 0 → wJ w18 r 0 = v.toInt64) → K v w18) → wp_Mo_told e0 mi m x1 x2 w7 K) → Q' k8 k9 i w7) : ∃ k8 k9, k8 ≤ nc ∧ k9 ≤ ns ∧ wp_La_told e0 mi (some q) x1 x2 (some r) w k8 k9 (Q' k8 k9) := by
  obtain ⟨S, A, P, LE, LW, R, M, hS, h9, hp, hr, hA, n1, n2⟩ := J
  have few := us_few R hS (by omega)
  have t60 := hS.1.2.1
  have inj : ∀ {i i2 : Nat}, i ≤ nT S → i2 ≤ nT S → x1 = nI i → x1 = nI i2 → i2 = i := fun hb hb2 e1 e2 => ((nI_eq (by omega) (by omega)).mp (e1.symm.trans e2)).symm
  have on : ∀ {i b p : Nat}, (rr S b)[p]? = some i → 1 ≤ i ∧ i ≤ nT S ∧ mm S 13 i = 0 := fun h => ⟨(hS.2.2.1 _ _ (List.mem_of_getElem? h)).1, (hS.2.2.1 _ _ (List.mem_of_getElem? h)).2.1, (hS.2.2.1 _ _ (List.mem_of_getElem? h)).2.2.1⟩
  have X : ∀ (i : Int32) {v : Int32} {w'}, ¬ i = 0 → PM m A S i w w' → AftV e0 c i v w' q m r (nc - 6) (ns - 60) := fun i v w' hi p => Jx_mk hi R hS h9 M.1 hr hA p hp n1 n2 (by omega) (by omega)
  have G : ∀ v : Int32, (∀ K : Int32 → Wd → Prop, (∀ v2 w', (¬ x2 = 4 → v2 = v) → PM m A S 0 (sJ w r 0 v.toInt64) w' → K v2 w') → wp_Mo_told e0 mi m x1 x2 (sJ w r 0 v.toInt64) K) → (∃ a10 : Nat, some r = some a10 ∧ (bw_is w a10 102 ∧ (vp_in (0 : Int32) (wN w a10) ∧ (Q' 6 60 (0 : Int32) (sJ w a10 (0 : Int32).toNatClampNeg v.toInt64))))) := fun v hv => ⟨r, rfl, hr.1, by rw [hr.2]; unfold vp_in; decide, hQ 6 60 0 _ M.1.1 (fun K hK => hv K (fun v2 w' e p => by
    have j := Jv_mk (v := v) R hS h9 M.1 hr hA p (by omega) hp n1 n2 (show usC S + 6 ≤ usC S + 10 by omega) (show usS S + 60 ≤ usS S + 200 by omega)
    exact hK v2 w' j.1 (fun z y => by rw [e z]; exact j.2 y)))⟩
  refine ⟨6, 60, by omega, by omega, q, rfl, R.1.1, 6, 60, Nat.le_refl _, Nat.le_refl _, B_told R hS (by omega) (by omega)
    (fun z => Or.inl ⟨rfl, hQ 6 60 1 w M.1.1 (fun K hK => N_told M hS (fun _ w' p => hK _ w' (X (v := 0) 1 (by decide) p).1 (fun _ z => absurd z (by decide))) (fun y => absurd y z) (fun i a b hx => absurd ⟨i, a, b, hx⟩ z))⟩)
    (fun y z => Or.inr ⟨rfl, hQ 6 60 2 w M.1.1 (fun K hK => N_told M hS (fun z2 => absurd y z2) (fun _ _ w' p => hK _ w' (X (v := 0) 2 (by decide) p).1 (fun _ z => absurd z (by decide))) (fun i a b hx w' p => ?_))⟩)
    (fun i i1 i2' hx => ?_)⟩
  · refine ⟨fun y => ?_, fun y => ?_, fun y => ?_, fun y => ?_, fun y => ?_, fun y => ?_, fun y => ?_⟩ <;> (subst y; exact absurd z (by decide))
  · have T : ∀ v : Int32, ((x2 = 0 → mm S 13 i = v) ∧ (x2 = 1 → mm S 14 i = v) ∧ (x2 = 2 → (if mm S 13 i = 0 then mm S 15 i else -1) = v) ∧ (x2 = 3 → mm S 16 i = v) ∧ (x2 = 5 → (if mm S 13 i = 0 then mm S 19 i else -1) = v) ∧ (x2 = 6 → mm S 20 i = v)) → ¬ (x2.toInt < 0 ∨ 6 < x2.toInt) → (∃ a10 : Nat, some r = some a10 ∧ (bw_is w a10 102 ∧ (vp_in (0 : Int32) (wN w a10) ∧ (Q' 6 60 (0 : Int32) (sJ w a10 (0 : Int32).toNatClampNeg v.toInt64))))) := fun v hv hn => G v (fun K hK => N_told (RM_row M hA) hS (fun z2 => absurd ⟨i, i1, i2', hx⟩ z2) (fun _ z2 => absurd z2 hn) (fun j j1 j2 hx2 w' p => by
      have ej := inj i2' j2 hx hx2
      subst ej
      exact ⟨fun y => hK _ w' (fun _ => hv.1 y) p, fun y => hK _ w' (fun _ => hv.2.1 y) p, fun y => hK _ w' (fun _ => hv.2.2.1 y) p, fun y => hK _ w' (fun _ => hv.2.2.2.1 y) p, fun y => hK _ w' (fun z => absurd y z) p, fun y => hK _ w' (fun _ => hv.2.2.2.2.1 y) p, fun y => hK _ w' (fun _ => hv.2.2.2.2.2 y) p⟩))
    refine ⟨fun y => T _ ?_ ?_, fun y => T _ ?_ ?_, fun y => T _ ?_ ?_, fun y => T _ ?_ ?_, fun y v _ => T _ ?_ ?_, fun y => T _ ?_ ?_, fun y => T _ ?_ ?_⟩ <;> (subst y) <;> first | decide | (refine ⟨fun z => ?_, fun z => ?_, fun z => ?_, fun z => ?_, fun z => ?_, fun z => ?_⟩ <;> first | exact absurd z (by decide) | rfl)
end
section
/-! ONE CALL OF BOTH: gap (no word of its answer) -/
theorem L_gap {e0 mi c q m r nc ns : Nat} {w : Wd} {x1 x2 : Int32} {Q' : Nat → Nat → Int32 → Wd → Prop} (J : Jn e0 c w q m r nc ns) (hc : c < 512)
    (hQ : ∀ k8 k9 i w7, bw_is w7 m 6 → (∀ K : Int32 → Wd → Prop, (∀ v w18, Aft e0 c i w18 q m r (nc - k8) (ns - k9) → K v w18) → wp_Mo_gap e0 mi m x1 x2 w7 K) → Q' k8 k9 i w7) : ∃ k8 k9, k8 ≤ nc ∧ k9 ≤ ns ∧ wp_La_gap e0 mi (some q) x1 x2 (some r) w k8 k9 (Q' k8 k9) := by
  obtain ⟨S, A, P, LE, LW, R, M, hS, h9, hp, hr, hA, n1, n2⟩ := J
  have few := us_few R hS (by omega)
  have t60 := hS.1.2.1
  have inj : ∀ {x : Int32} {i i2 : Nat}, i ≤ nT S → i2 ≤ nT S → x = nI i → x = nI i2 → i2 = i := fun hb hb2 e1 e2 => ((nI_eq (by omega) (by omega)).mp (e1.symm.trans e2)).symm
  have X : ∀ (i : Int32) {v : Int32} {w'}, ¬ i = 0 → PM m A S i w w' → AftV e0 c i v w' q m r (nc - 6) (ns - 60) := fun i v w' hi p => Jx_mk hi R hS h9 M.1 hr hA p hp n1 n2 (by omega) (by omega)
  refine ⟨6, 60, by omega, by omega, q, rfl, R.1.1, 6, 60, Nat.le_refl _, Nat.le_refl _, B_gap R hS (by omega) (by omega)
    (fun z => Or.inl ⟨rfl, hQ 6 60 1 w M.1.1 (fun K hK => N_gap M hS (fun _ w' p => hK _ w' (X (v := 0) 1 (by decide) p).1) (fun i j a1 a2 a3 c1 c2 c3 => absurd ⟨⟨i, a1, a2, a3⟩, ⟨j, c1, c2, c3⟩⟩ z) (fun i j a1 a2 a3 c1 c2 c3 => absurd ⟨⟨i, a1, a2, a3⟩, ⟨j, c1, c2, c3⟩⟩ z))⟩)
    (fun i j a1 a2 a3 c1 c2 c3 z => Or.inr ⟨rfl, hQ 6 60 2 w M.1.1 (fun K hK => N_gap M hS (fun z2 => absurd ⟨⟨i, a1, a2, a3⟩, ⟨j, c1, c2, c3⟩⟩ z2) (fun _ _ _ _ _ _ _ _ _ w' p => hK _ w' (X (v := 0) 2 (by decide) p).1) (fun i2 j2 _ d2 d3 _ f2 f3 g1 g2 g3 g4 => absurd ?_ z))⟩)
    (fun i j a1 a2 a3 c1 c2 c3 g1 g2 g3 g4 => ⟨r, rfl, hr.1, by rw [hr.2]; unfold vp_in; decide, hQ 6 60 0 _ M.1.1 (fun K hK => N_gap (RM_row M hA) hS (fun z2 => absurd ⟨⟨i, a1, a2, a3⟩, ⟨j, c1, c2, c3⟩⟩ z2) (fun i2 j2 _ d2 d3 _ f2 f3 z => absurd ?_ z) (fun _ _ _ _ _ _ _ _ _ _ _ _ _ _ _ _ _ w' p => hK _ w' (Jv_mk R hS h9 M.1 hr hA p (by omega) hp n1 n2 (by omega) (by omega)).1))⟩)⟩
  · have e1 := inj a2 d2 a3 d3
    have e2 := inj c2 f2 c3 f3
    subst e1 e2
    exact ⟨g1, g2, g3, g4⟩
  · have e1 := inj a2 d2 a3 d3
    have e2 := inj c2 f2 c3 f3
    subst e1 e2
    exact ⟨g1, g2, g3, g4⟩
end
section
/-! ONE CALL OF BOTH: count; what stands behind a call -/
theorem Jn_m {e0 c q m r nc ns : Nat} {w : Wd} (J : Jn e0 c w q m r nc ns) : bw_is w q 5 ∧ bw_is w m 6 ∧ isRes w r := by
  obtain ⟨S, A, P, LE, LW, R, M, hS, h9, hp, hr, hA, n1, n2⟩ := J
  exact ⟨R.1.1, M.1.1, hr⟩
theorem Jn_up {e0 c q m r nc ns : Nat} {w : Wd} (J : Jn e0 c w q m r nc ns) : Jn e0 (c + 1) w q m r nc ns := by
  obtain ⟨S, A, P, LE, LW, R, M, hS, h9, hp, hr, hA, n1, n2⟩ := J
  exact ⟨S, A, P, LE, LW, R, M, hS, h9, by omega, hr, hA, by omega, by omega⟩
theorem L_count {e0 mi c q m r nc ns : Nat} {w : Wd} {x1 : Int32} {Q' : Int32 → Wd → Prop} (J : Jn e0 c w q m r nc ns)
    (hQ : ∀ v, (∀ K : Int32 → Wd → Prop, (∀ w18, Jn e0 (c + 1) w18 q m r nc ns → K v w18) → wp_Mo_count e0 mi m x1 w K) → Q' v w) : wp_Br_count e0 mi q x1 w Q' := by
  obtain ⟨S, A, P, LE, LW, R, M, hS, h9, hp, hr, hA, n1, n2⟩ := J
  have T : ∀ v : Int32, (∀ K : Int32 → Wd → Prop, (∀ w', PM m A S 0 w w' → K v w') → wp_Mo_count e0 mi m x1 w K) → Q' v w := fun v hv => hQ v (fun K hK => hv K (fun w' p => hK w' ⟨S, A, P, LE, LW, RC_fx (S' := S) R hS M.1 p.2.1, p.1, hS, h9, by omega, (res_fx hr M.1 hA p.2.1).1, hA, by omega, by omega⟩))
  refine B_count R hS (fun y => ?_) (fun y => ?_) (fun y => ?_) (fun y => ?_) (fun y => ?_) (fun y => ?_) (fun y => ?_) (fun y => ?_) (fun y => ?_)
  iterate 8 (subst y; exact T _ (fun K hK => N_count M hS (fun z w' p => by first | exact hK w' p | exact absurd z (by decide)) (fun z w' p => by first | exact hK w' p | exact absurd z (by decide)) (fun z w' p => by first | exact hK w' p | exact absurd z (by decide)) (fun z w' p => by first | exact hK w' p | exact absurd z (by decide)) (fun z w' p => by first | exact hK w' p | exact absurd z (by decide)) (fun z w' p => by first | exact hK w' p | exact absurd z (by decide)) (fun z w' p => by first | exact hK w' p | exact absurd z (by decide)) (fun z w' p => by first | exact hK w' p | exact absurd z (by decide)) (fun z => absurd z (by decide))))
  have nn : ∀ k : Int32, ¬ (k.toInt < 0 ∨ 7 < k.toInt) → x1 = k → False := fun k hk e => hk (e ▸ y)
  exact T _ (fun K hK => N_count M hS (fun z => absurd (nn _ (by decide) z) id) (fun z => absurd (nn _ (by decide) z) id) (fun z => absurd (nn _ (by decide) z) id) (fun z => absurd (nn _ (by decide) z) id) (fun z => absurd (nn _ (by decide) z) id) (fun z => absurd (nn _ (by decide) z) id) (fun z => absurd (nn _ (by decide) z) id) (fun z => absurd (nn _ (by decide) z) id) (fun _ w' p => hK w' p))
end
