/-! ONE CALL OF BOTH: join -/
theorem L_join {e0 mi c q m r nc ns : Nat} {w : Wd} {x1 x2 x3 x4 : Int32} {Q' : Nat → Nat → Int32 → Wd → Prop} (J : Jn e0 c w q m r nc ns) (hc : c < 512)
    (hQ : ∀ k8 k9 i w7, bw_is w7 m 6 → (∀ K : Int32 → Wd → Prop, (∀ v w18, AftV e0 c i v w18 q m r (nc - k8) (ns - k9) → K v w18) → wp_Mo_join e0 mi m x1 x2 x3 x4 w7 K) → Q' k8 k9 i w7) : ∃ k8 k9, k8 ≤ nc ∧ k9 ≤ ns ∧ wp_La_join e0 mi (some q) x1 x2 x3 x4 (some r) w k8 k9 (Q' k8 k9) := by
  obtain ⟨S, A, P, LE, LW, R, M, hS, h9, hp, hr, hA, n1, n2⟩ := J
  have few := us_few R hS (by omega)
  have b8 := hS.1.1
  have inj : ∀ {x : Int32} {b b2 : Nat}, b < nB S → b2 < nB S → x = nI b → x = nI b2 → b2 = b := fun hb hb2 e1 e2 => ((nI_eq (by omega) (by omega)).mp (e1.symm.trans e2)).symm
  have X : ∀ (i : Int32) {v : Int32} {w'}, ¬ i = 0 → PM m A S i w w' → AftV e0 c i v w' q m r (nc - 6) (ns - 60) := fun i v w' hi p => Jx_mk hi R hS h9 M.1 hr hA p hp n1 n2 (by omega) (by omega)
  refine ⟨6, 60, by omega, by omega, q, rfl, R.1.1, 6, 60, Nat.le_refl _, Nat.le_refl _, B_join R hS (by omega) (by omega)
    (fun z => Or.inl ⟨rfl, hQ 6 60 1 w M.1.1 (fun K hK => N_join M hS (fun _ w' p => hK _ w' (X 1 (by decide) p)) (fun b t hb hx ht hx3 => absurd ⟨⟨b, hb, hx⟩, ⟨t, ht, hx3⟩⟩ z) (fun b t y hb hx ht hx3 => absurd ⟨⟨b, hb, hx⟩, ⟨t, ht, hx3⟩⟩ z))⟩)
    (fun b t hb hx ht hx3 z => Or.inr ⟨rfl, hQ 6 60 2 w M.1.1 (fun K hK => N_join M hS (fun z2 => absurd ⟨⟨b, hb, hx⟩, ⟨t, ht, hx3⟩⟩ z2) (fun _ _ _ _ _ _ _ w' p => hK _ w' (X 2 (by decide) p)) (fun b2 t2 y hb2 hx2 ht2 hx32 _ _ r1 r2 lt => absurd ⟨r1, r2, (inj hb hb2 hx hx2 ▸ inj ht ht2 hx3 hx32 ▸ lt)⟩ z))⟩)
    (fun b t y hb hx ht hx3 hy hxy r1 r2 lt w7 R7 F7 => ?_)⟩
  have M7 := RM_frC M F7
  have r7 := (res_frC hr F7).1
  have u := us_join S (2 * b + y) t x4
  refine ⟨r, rfl, r7.1, by rw [r7.2]; unfold vp_in; decide, hQ 6 60 0 _ M7.1.1 (fun K hK => N_join (RM_row M7 hA) hS (fun z2 => absurd ⟨⟨b, hb, hx⟩, ⟨t, ht, hx3⟩⟩ z2) (fun b2 t2 hb2 hx2 ht2 hx32 z2 => absurd ⟨r1, r2, ?_⟩ z2) (fun b2 t2 y2 hb2 hx2 ht2 hx32 hy2 hxy2 _ _ _ w' p => hK _ w' ?_))⟩
  · have e1 := inj hb hb2 hx hx2
    have e2 := inj ht ht2 hx3 hx32
    have e3 : y2 = y := ((nI_eq (by omega) (by omega)).mp (hxy.symm.trans hxy2)).symm
    subst e1 e2 e3
    exact Jv_mk R7 (ok_join hS hb hy lt ht x4) (n9_join h9 _ _ x4) M7.1 r7 hA p (Nat.le_trans (phi_join S _ _ x4) (by omega)) hp n1 n2 (by omega) (by omega)
  · rw [inj hb hb2 hx hx2, inj ht ht2 hx3 hx32]; exact lt
