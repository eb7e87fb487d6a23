/-! ONE CALL OF BOTH: step -/
theorem wx_mv1 (S : St) (b : Nat) (most : Int32) (i : Nat) : wX (mv1S S b most i) = max (wX S) (wts (mv1S S b most i)).length ∧ (wts S).length ≤ (wts (mv1S S b most i)).length := by
  unfold mv1S waitS
  rw [wX_uw, wts_uw, wX_um, wX_um, wts_um, wts_um]
  refine ⟨rfl, ?_⟩
  rw [List.length_append]
  omega
theorem wx_mvL {b : Nat} : ∀ (l : List Nat) (S : St) (p : Option Nat), wX (mvLS S b p l) ≤ max (wX S) (wts (mvLS S b p l)).length ∧ (wts S).length ≤ (wts (mvLS S b p l)).length
  | [], S, p => by unfold mvLS; omega
  | i :: t, S, p => by
    have h1 := wx_mv1 S b (mostS S b p) i
    have h2 := wx_mvL (b := b) t (mv1S S b (mostS S b p) i) (some i)
    have e : mvLS S b p (i :: t) = mvLS (mv1S S b (mostS S b p) i) b (some i) t := rfl
    rw [e]
    omega
theorem wx_mvAll (S : St) : ∀ n, wX (mvAllS S n) ≤ max (wX S) (wts (mvAllS S n)).length ∧ (wts S).length ≤ (wts (mvAllS S n)).length
  | 0 => by show wX S ≤ max (wX S) (wts S).length ∧ (wts S).length ≤ (wts S).length; omega
  | n + 1 => by
    have ih := wx_mvAll S n
    by_cases hz : mm (mvAllS S n) 6 n = 0
    · rw [mvAll_no hz]; exact ih
    · rw [mvAll_go hz]
      unfold moveS
      have h2 := wx_mvL (b := n) (rr (mvAllS S n) n) (mvAllS S n) none
      omega
theorem wx_sec (S : St) : wX (secS S) ≤ max (wX S) (wts (secS S)).length := by
  have u2 := (uC_exAll (nB S) (readS (tickS S))).2.2
  have u3 := (wx_mvAll (exAllS (readS (tickS S)) (nB S)) (nB S)).1
  have u0 : wX (readS (tickS S)) = wX S := rfl
  unfold secS
  omega
theorem wx_steps {S : St} {k : Nat} (hf : fewS S k) (h : wX S ≤ 10000) : ∀ j, j ≤ k → wX (stepsS S j) ≤ 10000
  | 0, _ => h
  | j + 1, hj => by
    have ih := wx_steps hf h j (by omega)
    have h1 := wx_sec (stepsS S j)
    have h2 := hf (j + 1) hj
    have e : stepsS S (j + 1) = secS (stepsS S j) := rfl
    rw [e] at h2 ⊢
    omega
theorem us_few2 {S : St} (hx : wX S ≤ 10000) (hS : okS S) (hp : Phi S < 2900) : usC S ≤ 20000 ∧ usS S ≤ 200000 := by
  have hg := gos_le hS
  obtain ⟨h1, h2, h3⟩ := hS.1
  have he : (eds S).length + (wts S).length ≤ Phi S := by unfold Phi; omega
  have a1 := cc_le (nB S)
  have a2 := cc_le (nT S)
  have a3 := cc_le (nS S)
  have a4 := cc_le (eds S).length
  have a5 := cc_le (wX S)
  have a6 := cc_le (gos S).length
  have b1 := cs_le (nB S)
  have b2 := cs_le (nT S)
  have b3 := cs_le (nS S)
  have b4 := cs_le (eds S).length
  have b5 := cs_le (wX S)
  have b6 := cs_le (gos S).length
  have d1 := (cap_facts (nB S)).2.1
  have d2 := (cap_facts (nT S)).2.1
  have d3 := (cap_facts (nS S)).2.1
  have d4 := (cap_facts (eds S).length).2.1
  have d5 := (cap_facts (wX S)).2.1
  have d6 := (cap_facts (gos S).length).2.1
  unfold usC usS
  constructor <;> omega
theorem rng100 {x : Int32} {j : Nat} (hj : j ≤ 100) (hx : x = nI j) : rng x 0 100 := by
  subst hx
  unfold rng
  rw [Int32.lt_iff_toInt_lt, Int32.lt_iff_toInt_lt, nI_toInt (by omega), show (0 : Int32).toInt = 0 by decide, show (100 : Int32).toInt = 100 by decide]
  omega
theorem L_step {e0 mi c q m r nc ns : Nat} {w : Wd} {x1 : Int32} {Q' : Nat → Nat → Int32 → Wd → Prop} (J : Jn e0 c w q m r nc ns) (hc : c < 512)
    (hQ : ∀ k8 k9 i w7, bw_is w7 m 6 → (∀ K : Int32 → Wd → Prop, (∀ v w18, AftV e0 c i v w18 q m r (nc - k8) (ns - k9) → K v w18) → wp_Mo_step e0 mi m x1 w7 K) → Q' k8 k9 i w7) : ∃ k8 k9, k8 ≤ nc ∧ k9 ≤ ns ∧ wp_La_step e0 mi (some q) x1 (some r) w k8 k9 (Q' k8 k9) := by
  obtain ⟨S, A, P, LE, LW, R, M, hS, h9, hp, hr, hA, n1, n2⟩ := J
  have few := us_few R hS (by omega)
  have hph : Phi S < 2900 := by omega
  by_cases z : rng x1 0 100
  · obtain ⟨k, hk, hx⟩ := nI_of2 (M := 100) (n := 100) (by decide) z.1 (Int32.not_lt.mp z.2)
    have mo := uC_stepsM (wx_ge R) k 0
    rw [Nat.zero_add, show stepsS S 0 = S from rfl] at mo
    have hpk := phi_steps hS k
    have hok := (ok_steps hS k).1
    have few2 := us_few2 (wx_steps (few_of_phi hS hph k) (R.2.1.1 4 (by decide)).2.2.2.1 k (Nat.le_refl k)) hok (by omega)
    have inj : ∀ j, j ≤ 100 → x1 = nI j → j = k := fun j hj hx2 => (nI_eq (by omega) (by omega)).mp (hx2.symm.trans hx)
    refine ⟨usC (stepsS S k) - usC S, usS (stepsS S k) - usS S, by omega, by omega, q, rfl, R.1.1, _, _, Nat.le_refl _, Nat.le_refl _, B_step R hS hph (fun y => absurd z y) (fun j hj hx2 => by rw [inj j hj hx2]; omega) (fun j hj hx2 w7 P' LE' LW' R7 F7 => ?_)⟩
    have ej := inj j hj hx2
    subst ej
    have M7 := RM_frC M F7
    have r7 := (res_frC hr F7).1
    refine ⟨r, rfl, r7.1, by rw [r7.2]; unfold vp_in; decide, hQ _ _ 0 _ M7.1.1 (fun K hK => N_step (RM_row M7 hA) hS hph (fun y => absurd z y) (fun i hi hx3 w' p => hK _ w' ?_))⟩
    have ei := inj i hi hx3
    subst ei
    exact Jv_mk R7 hok (n9_steps h9 hS _) M7.1 r7 hA p (by omega) hp n1 n2 (by omega) (by omega)
  · exact ⟨1, 6, by omega, by omega, q, rfl, R.1.1, 1, 6, Nat.le_refl _, Nat.le_refl _, B_step R hS hph (fun _ => ⟨Nat.le_refl _, Nat.le_refl _, rfl, hQ 1 6 1 w M.1.1 (fun K hK => N_step M hS hph (fun _ w' p => hK _ w' (Jx_mk (by decide) R hS h9 M.1 hr hA p hp n1 n2 (by omega) (by omega))) (fun j hj hx2 => absurd (rng100 hj hx2) z))⟩) (fun j hj hx2 => absurd (rng100 hj hx2) z) (fun j hj hx2 => absurd (rng100 hj hx2) z)⟩
