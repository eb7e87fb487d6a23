/-! ONE CALL OF BOTH: calls with an answer; belt -/
theorem sJ_at (w : Wd) (r : Nat) (v : Int64) : wJ (sJ w r 0 v) r 0 = v := by rw [pJ_J, if_pos ⟨rfl, rfl⟩]
theorem Jv_mk {e0 c q m r nc ns k8 k9 : Nat} {S S' : St} {w7 w' : Wd} {A : Nat → Nat} {P : Nat → Nat → Nat} {LE LW : List (Nat × Ed)} {v : Int32} (R : RC e0 S' w7 q P LE LW) (hS : okS S') (h9 : ok9 S') (hM : isM w7 m A) (hr : isRes w7 r) (hA : ∀ k, 0 < mKd k → A k ≠ r) (hp : PM m A S' 0 (sJ w7 r 0 v.toInt64) w') (hphi : Phi S' ≤ Phi S + 4) (h0 : Phi S ≤ 720 + 4 * c)
    (n1 : 50000 ≤ nc + usC S + 10 * c) (n2 : 500000 ≤ ns + usS S + 200 * c) (u1 : usC S + k8 ≤ usC S' + 10) (u2 : usS S + k9 ≤ usS S' + 200) : AftV e0 c 0 v w' q m r (nc - k8) (ns - k9) := by
  have hr2 : isRes (sJ w7 r 0 v.toInt64) r := hr
  have hM2 : isM (sJ w7 r 0 v.toInt64) m A := hM
  refine ⟨Jn_mk (RC_row R hS hr) hS h9 hM2 hp hphi h0 hr2 hA n1 n2 u1 u2, fun _ => ?_⟩
  rw [(res_fx hr2 hM2 hA hp.2.1).2]
  exact sJ_at w7 r _
theorem Jx_mk {e0 c q m r nc ns k8 k9 : Nat} {S : St} {w w' : Wd} {A : Nat → Nat} {P : Nat → Nat → Nat} {LE LW : List (Nat × Ed)} {i v : Int32} (hi : ¬ i = 0) (R : RC e0 S w q P LE LW) (hS : okS S) (h9 : ok9 S) (hM : isM w m A) (hr : isRes w r) (hA : ∀ k, 0 < mKd k → A k ≠ r) (hp : PM m A S i w w') (h0 : Phi S ≤ 720 + 4 * c)
    (n1 : 50000 ≤ nc + usC S + 10 * c) (n2 : 500000 ≤ ns + usS S + 200 * c) (u1 : k8 ≤ 10) (u2 : k9 ≤ 200) : AftV e0 c i v w' q m r (nc - k8) (ns - k9) :=
  ⟨Jn_mk R hS h9 hM hp (by omega) h0 hr hA n1 n2 (by omega) (by omega), fun z => absurd z hi⟩
