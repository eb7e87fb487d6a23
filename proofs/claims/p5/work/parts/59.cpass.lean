/-! THE CLASS: an item is passed on -/
section CL
variable {e0 mi q : Nat} {P : Nat → Nat → Nat} {S : St} {w : Wd} {LE LW : List (Nat × Ed)}
theorem RC_went {k : Nat} (R : RC e0 S w q P LE LW) (hS : okS S) (hk : k < 2 * nB S) (v : Int32) : RC e0 (um S 9 k v) (sI w (P 2 k) 2 v) q P LE LW ∧ FrC w (sI w (P 2 k) 2 v) := by
  obtain ⟨r1, r2, r3, r4, r5, r6, r7, r8⟩ := R
  have h4k := (r4.1 k hk).1
  have K : Kp (fun x => x = P 2 k) w (sI w (P 2 k) 2 v) := Kp.rfl.sI (fun _ => rfl)
  have kN : ∀ ci, ci ≠ 4 → ∀ a, bw_is w a ci → ¬ a = P 2 k := fun ci hci a ha => is_ne ha h4k hci
  have em : ∀ j, j ≠ 9 → mm (um S 9 k v) j = mm S j := fun j hj => mm_um_ne S k v hj
  have e3 := c3_kp r3 K (kN 0 (by decide))
  have e5 := c5_kp r5 K (kN 2 (by decide))
  have e6 := c6_kp r6 r5 hS K (kN 2 (by decide))
  refine ⟨⟨c1_eq (c1_kp r1 K (kN 5 (by decide))) (em 1 (by decide)) (em 2 (by decide)) (em 30 (by decide)), c2_eq (c2_kp r2 K (kN 7 (by decide)) (kN 100 (by decide))) (fun _ => rfl) (fun _ => rfl), ?_, ⟨fun j hj => ?_, r4.2⟩, ?_, e6, c7_eq (c7_kp r7 K (kN 3 (by decide))) rfl rfl (em 22 (by decide)) (em 23 (by decide)) (em 24 (by decide)), c8_eq (c8_kp r8 K (kN 1 (by decide))) rfl rfl⟩, K.frC (fun a ha z => by rw [z, h4k.2]; unfold kM; omega)⟩
  · unfold c3 at *
    rw [em 4 (by decide), em 5 (by decide), em 6 (by decide)]; exact e3
  · replace hj : j < 2 * nB S := hj
    obtain ⟨q0, q1, q2, q3, q4⟩ := r4.1 j hj
    rw [em 7 (by decide), em 8 (by decide), mm_um]
    by_cases hjk : j = k
    · subst hjk
      rw [if_pos ⟨rfl, rfl⟩]
      refine ⟨q0, by rw [pI_I, if_pos ⟨rfl, rfl⟩], q2, q3, fun z => ?_⟩
      rw [pI_I, if_neg (fun y => by simp at y)]; exact q4 z
    · have hne : P 2 j ≠ P 2 k := fun z => hjk (r4.2 j k hj hk z)
      rw [if_neg (fun z => hjk z.2)]
      refine ⟨q0, by rw [pI_I, if_neg (fun y => hne y.1)]; exact q1, q2, q3, fun z => ?_⟩
      rw [pI_I, if_neg (fun y => hne y.1)]; exact q4 z
  · unfold c5 at *
    rw [em 13 (by decide), em 14 (by decide), em 15 (by decide), em 16 (by decide), em 17 (by decide), em 18 (by decide), em 19 (by decide), em 20 (by decide)]; exact e5
theorem missC_le (S : St) (b : Nat) : missC S b ≤ 0 ↔ ¬ (0 : Int32) < missS S b := by
  unfold missC
  by_cases h : (0 : Int32) < missS S b
  · rw [if_pos h]
    exact ⟨fun z => absurd z (Int32.not_le.mpr h), fun z => absurd h z⟩
  · rw [if_neg h]
    exact ⟨fun _ => h, fun _ => by decide⟩
theorem C_pass {b nc ns : Nat} {Q : Wd → Prop} (R : RC e0 S w q P LE LW) (hS : okS S) (hb : b < nB S) (he : (eds S).length < 4096) (hc : usC (passS S b) ≤ usC S + nc) (hs : usS (passS S b) ≤ usS S + ns)
    (hQ : ∀ w' P' LE', RC e0 (passS S b) w' q P' LE' LW → Pk P P' → FrC w w' → Q w') : wp_Br_passOnTo e0 mi q (some (P 0 b)) w nc ns Q := by
  have hb8 := hS.1.1
  have hbc := (R.2.2.1.1 b hb).1
  unfold wp_Br_passOnTo
  refine ⟨R.1.1, C_missing R hS hb ⟨fun z => ⟨R.1.1, ?_⟩, fun z => ?_⟩⟩
  · have hm := (missC_le S b).mp z
    unfold wp_Br_giverTo
    refine ⟨b + 1, C_giver R hS hb ?_ b 0 (by omega)⟩
    cases hg : giverS S b b with
    | none =>
      have hsame : passS S b = S := by unfold passS; rw [if_neg hm]; simp only [hg]
      exact ⟨fun y => absurd rfl y, fun _ => hQ w P LE (by rw [hsame]; exact R) Pk.rfl FrC.rfl⟩
    | some k =>
      obtain ⟨x, hx, hk⟩ := giver_some b k hg
      obtain ⟨j, t, ht, hpl, hgo, ⟨y, hy, hky⟩, h7, h6x⟩ := cand_some hS hk
      have hk2 : k / 2 = x := by omega
      have hxB : x < nB S := by omega
      have hjm : j ∈ rr S x := by rw [ht]; exact List.mem_cons_self
      obtain ⟨-, j1, j2, j3, j4, j5, x8, j61⟩ := in_row hS hjm
      have hp : (rr S x)[0]? = some j := by rw [ht]; rfl
      have et : (rr S x).eraseIdx 0 = t := by rw [ht]; rfl
      have hae : atEndS S x = some j := by unfold atEndS; rw [ht]; simp only [if_pos hpl]
      have hkB : k < 2 * nB S := by omega
      have hpass : passS S b = tellS (comeS (ur (um S 9 k (mm S 9 k + 1)) x t) j b) (mm S 1 0, 2, j, b) := by
        unfold passS; rw [if_neg hm]; simp only [hg, hk2, ht]; rfl
      have h3x := (R.2.2.1.1 x hxB).1
      have h4k := R.2.2.2.1.1 k hkB
      have huse : useS S x = some k := by unfold useS; rw [if_neg h6x, hae]; exact hgo
      refine ⟨fun _ => ⟨P 0 x, by show some (P 0 (k / 2)) = _; rw [hk2], h3x, C_atEnd R hS hxB ?_⟩, fun q0 => absurd q0 (by simp)⟩
      rw [hae]
      refine ⟨h3x, C_inUse R hS hxB ?_⟩
      rw [huse]
      refine ⟨fun q0 => absurd q0 (by simp), fun _ => ⟨fun _ => ⟨P 2 k, rfl, h4k.1, ?_⟩, fun q0 => absurd q0 (by simp)⟩⟩
      rw [h4k.2.1]
      obtain ⟨R1, F1⟩ := RC_went R hS hkB (mm S 9 k + 1)
      have ok1 := ok_um hS (k := 9) (by unfold okSlot; decide) k (mm S 9 k + 1)
      refine ⟨(R1.2.2.1.1 x hxB).1, C_let R1 ok1 hp (fun w7 k3 k5 k6 kI K kL => ?_)⟩
      have hxb : b ≠ x := by omega
      have kN : ∀ a ci, bw_is (sI w (P 2 k) 2 (mm S 9 k + 1)) a ci → ci ≠ 0 → ci ≠ 2 → ¬ (a = P 0 x ∨ ∃ i, i ∈ rr (um S 9 k (mm S 9 k + 1)) x ∧ a = P 1 i) := fun a ci ha c0 c2' z => by
        rcases z with z | ⟨i, hi, z⟩
        · exact absurd z (is_ne ha (R1.2.2.1.1 x hxB).1 c0)
        · have hi' := in_row ok1 hi
          exact absurd z (is_ne ha (R1.2.2.2.2.1.1 i hi'.2.1 hi'.2.2.1).1 c2')
      have F7 : FrC (sI w (P 2 k) 2 (mm S 9 k + 1)) w7 := K.frC (fun a ha z => by
        rcases z with z | ⟨i, hi, z⟩
        · rw [z, (R1.2.2.1.1 x hxB).1.2]; unfold kM; omega
        · have hi' := in_row ok1 hi
          rw [z, (R1.2.2.2.2.1.1 i hi'.2.1 hi'.2.2.1).1.2]; unfold kM; omega)
      obtain ⟨r1, r2, r3, r4, r5, r6, r7, r8⟩ := R1
      have et1 : (rr (um S 9 k (mm S 9 k + 1)) x).eraseIdx 0 = t := et
      rw [et1] at k3 k6
      have hrow : ∀ c, rr (ur (um S 9 k (mm S 9 k + 1)) x t) c = if c = x then t else rr S c := fun c => by rw [rr_ur, rr_um]
      have hnd := hS.2.2.2.1 x
      rw [ht] at hnd
      obtain ⟨hjt, htn⟩ := List.nodup_cons.mp hnd
      have hsub : ∀ c i, i ∈ rr (ur (um S 9 k (mm S 9 k + 1)) x t) c → i ∈ rr S c ∧ i ≠ j := fun c i hi => by
        rw [hrow] at hi
        by_cases hcx : c = x
        · rw [if_pos hcx] at hi
          rw [hcx, ht]
          exact ⟨List.mem_cons_of_mem _ hi, fun z => hjt (z ▸ hi)⟩
        · rw [if_neg hcx] at hi
          exact ⟨hi, fun z => hcx (ok_row hS (z ▸ hi) hjm)⟩
      have hb7 : bw_is w7 (P 0 b) 0 := (k3.1 b hb).1
      refine ⟨P 0 b, rfl, hb7, C_take (S := ur (um S 9 k (mm S 9 k + 1)) x t) (LE := LE) (LW := LW) (q := q) (e0 := e0) (c1_eq (c1_kp r1 K (fun a ha => kN a 5 ha (by decide) (by decide))) rfl rfl rfl) (c2_eq (c2_kp r2 K (fun a ha => kN a 7 ha (by decide) (by decide)) (fun a ha => kN a 100 ha (by decide) (by decide))) (fun _ => rfl) (fun _ => rfl)) k3 (c4_eq (c4_kp r4 K (fun a ha => kN a 4 ha (by decide) (by decide))) rfl rfl rfl rfl) (c5_x (S := ur (um S 9 k (mm S 9 k + 1)) x t) k5 j) k6 (c7_eq (c7_kp r7 K (fun a ha => kN a 3 ha (by decide) (by decide))) rfl rfl rfl rfl rfl) (c8_eq (c8_kp r8 K (fun a ha => kN a 1 ha (by decide) (by decide))) rfl rfl) (fun c i hi => ?_) ?_ (fun c hc i hi hi2 => ?_) hb hb8 j1 j2 (fun w16 R2 F2 _ => ?_)⟩
      · obtain ⟨q1, q2⟩ := hsub c i hi
        have := in_row hS q1
        exact ⟨this.2.1, this.2.2.1, q2⟩
      · rw [hrow, if_neg hxb]; exact hS.2.2.2.1 b
      · exact hc (ok_row hS (hsub c i hi).1 (hsub b i hi2).1)
      · have ok2 : okS (comeS (ur (um S 9 k (mm S 9 k + 1)) x t) j b) := ok_move hS (k := k) (v := mm S 9 k + 1) ht hb hxb
        have ut := uC_tell (comeS (ur (um S 9 k (mm S 9 k + 1)) x t) j b) (mm S 1 0, 2, j, b)
        have u1 : usC (comeS (ur (um S 9 k (mm S 9 k + 1)) x t) j b) = usC S := rfl
        have u2 : usS (comeS (ur (um S 9 k (mm S 9 k + 1)) x t) j b) = usS S := rfl
        have ue' : eds (comeS (ur (um S 9 k (mm S 9 k + 1)) x t) j b) = eds S := rfl
        rw [← hpass, u1, u2, ue'] at ut
        rw [ut.1] at hc
        rw [ut.2] at hs
        refine ⟨by omega, by omega, fun z hz w26 e26 => ?_⟩
        have R3 : RC e0 (comeS (ur (um S 9 k (mm S 9 k + 1)) x t) j b) w26 q P LE LW := RC_kp R2 ok2 (X := fun _ => False) (by rw [e26]; exact Kp.rfl.new hz) (fun a ci ha z => False.elim z)
        have h5j := R3.2.2.2.2.1.1 j j1 j2
        have h3b := R3.2.2.1.1 b hb
        refine ⟨R3.1.1, P 1 j, rfl, h5j.1, h3b.1, C_newEdge (v0 := wI w26 q 7) (k := 2) (i := j) (o := b) R2 ok2 hz e26 rfl h5j.2.1 h3b.2.1 (fun w33 R4 hE F4 _ => ?_)⟩
        have v7 : wI w26 q 7 = mm S 1 0 := by rw [R3.1.2.2.1, mm_come _ _ _ (by decide), mm_ur, mm_um_ne _ _ _ (by decide)]
        rw [v7] at hE
        refine ⟨R4.1.1, gC (eds S).length (eds S).length, gS (eds S).length (eds S).length, by omega, by omega, C_tell R4 ok2 hE (by rw [ue']; exact he) (by rw [ue']; exact Nat.le_refl _) (by rw [ue']; exact Nat.le_refl _) (fun w41 d3 R5 F5 => ?_)⟩
        rw [← hpass] at R5
        exact hQ w41 _ _ R5 (Pk_n P 3 d3) ((((F1.trans F7).trans F2).trans F4).trans F5)
  · have hm : (0 : Int32) < missS S b := by
      by_cases h : (0 : Int32) < missS S b
      · exact h
      · exact absurd ((missC_le S b).mpr h) z
    have hsame : passS S b = S := by unfold passS; rw [if_pos hm]
    exact hQ w P LE (by rw [hsame]; exact R) Pk.rfl FrC.rfl
end CL
