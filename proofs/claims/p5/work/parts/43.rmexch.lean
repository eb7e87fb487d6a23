/-! THE REFERENCE: a second -/
theorem k_half : ∀ k, k < 16 → nI k / 2 = nI (k / 2) := by decide
theorem mm_come (S : St) (i b : Nat) {k : Nat} (h : k ≠ 14 ∧ k ≠ 15 ∧ k ≠ 17 ∧ k ≠ 18 ∧ k ≠ 19) : mm (comeS S i b) k = mm S k := by
  unfold comeS
  rw [mm_ur, mm_um_ne _ _ _ h.2.2.2.2, mm_um_ne _ _ _ h.2.2.2.1, mm_um_ne _ _ _ h.2.2.1, mm_um_ne _ _ _ h.2.1, mm_um_ne _ _ _ h.1]
theorem eds_come (S : St) (i b : Nat) : eds (comeS S i b) = eds S := (rfl)
section MO
variable {e0 mi m : Nat} {A : Nat → Nat} {S : St} {w : Wd}
theorem M_pass {b : Nat} {x2 : Int32} {Q : Wd → Prop} (h : RM S w m A) (hS : okS S) (hb : b < nB S) (he : (eds S).length < 6000) (hQ : ∀ w', RM (passS S b) w' m A → FM m A w w' → Q w') : wb_Mo_exchange_78 e0 mi Q m (nI b) x2 w := by
  have hr := okS_R hS
  have hb8 : b < 8 := by have := hS.1.1; omega
  unfold wb_Mo_exchange_78
  refine ⟨h.1.1, M_missing h hb8 hr ⟨fun z => ⟨b + 1, ?_⟩, fun z => hQ w ?_ FM.rfl⟩⟩
  · have G := M_giver (e0 := e0) (mi := mi) (x2 := x2) (Q := Q) h hS hb ?_ b 0 (by omega)
    · exact G
    · intro n
      unfold wb_Mo_exchange_92
      refine ⟨fun _ => ⟨fun z1 => ?_, fun z1 => ?_⟩, fun q => absurd (nI_le (Nat.le_refl _) (by omega)) q⟩
      · cases hg : giverS S b b with
        | none => rw [hg] at z1; exact absurd rfl z1
        | some k =>
          obtain ⟨x, hx, hk⟩ := giver_some b k hg
          obtain ⟨j, t, ht, -, -, ⟨y, hy, hky⟩, h7, -⟩ := cand_some hS hk
          have hk2 : k / 2 = x := by omega
          have hk16 : k < 16 := by omega
          have hx8 : x < 8 := by omega
          have hj := hS.2.2.1 x j (by rw [ht]; exact List.mem_cons_self)
          have hj61 : j < 61 := by have := hj.2.1; have := hS.1.2.1; omega
          have hxb : b ≠ x := by omega
          have hj0 : (rr S x)[0]? = some j := by rw [ht]; rfl
          have hv0 := (h.2.2.2.2.1 x hx8).2 0 j hj0
          refine ⟨h.1.1, by decide, ?_⟩
          show ∃ a4 : Nat, _
          have ek : (60 : Int32) * (enc (some k) / 2) = nI (60 * x) := by
            show (60 : Int32) * (nI k / 2) = _
            rw [k_half k hk16, hk2, i60']
          refine ldA h.1 11 (n := 480) rfl (by decide) rfl ek (by omega) (fun i7 e7 => ?_)
          rw [ek, nI_clamp (by omega), show 60 * x = 60 * x + 0 from rfl, hv0] at e7
          subst e7
          refine M_leave h hx8 hj61 hj.2.2.2.1 hj0 (fun q hq => by omega) hr (fun w9 R9 F9 => ⟨R9.1.1, ?_⟩)
          have hbj : j ∉ rr S b := fun q => by
            have q2 := (hS.2.2.1 b j q).2.2.2.1
            rw [hj.2.2.2.1] at q2
            exact hxb ((nI_eq (by omega) (by omega)).mp q2).symm
          have hlb : (rr S b).length < 60 := by
            have := nodup_le (nT S) (j :: rr S b) (List.nodup_cons.mpr ⟨hbj, hS.2.2.2.1 b⟩) (fun i hi => by
              rcases List.mem_cons.mp hi with q | q
              · rw [q]; exact ⟨hj.1, hj.2.1⟩
              · exact ⟨(hS.2.2.1 b i q).1, (hS.2.2.1 b i q).2.1⟩)
            have := hS.1.2.1
            simp at *
            omega
          have et : (rr S x).eraseIdx 0 = t := by rw [ht]; rfl
          rw [et] at R9
          refine ldA R9.1 9 (n := 16) rfl (by decide) rfl (show enc (some k) = nI k from rfl) hk16 ⟨vA R9.1 9 (n := 16) (by decide) rfl (show enc (some k) = nI k from rfl) hk16, ?_⟩
          have ck : (enc (some k)).toNatClampNeg = k := nI_clamp (by omega)
          rw [ck, R9.2.2.2.1 9 (by unfold isInt; decide) k hk16, mm_ur]
          have R10 := RM_um R9 (k := 9) (i := k) (by unfold isInt; decide) (mm S 9 k + 1)
          have F10 := F9.ar (k := 9) (by decide) (isM_ne h.1 (by decide)) k (mm S 9 k + 1)
          have hrr : ∀ c, rr (um (ur S x t) 9 k (mm S 9 k + 1)) c = if c = x then t else rr S c := fun c => by rw [rr_um, rr_ur]
          refine M_come R10 hb8 hj61 (by rw [hrr, if_neg hxb]; exact hlb) (fun c hc => ?_) (fun w21 R21 F21 => ⟨R21.1.1, M_tell (kd := 2) R21 ?_ (fun w29 R29 F29 => ?_)⟩)
          · rw [hrr]
            by_cases hcx : c = x
            · rw [if_pos hcx]
              have q := hr x hx8
              rw [ht] at q
              exact ⟨by have := q.1; simp at this; omega, fun i hi => q.2 i (List.mem_cons_of_mem _ hi)⟩
            · rw [if_neg hcx]; exact hr c hc
          · rw [eds_come, eds_um]; exact he
          · refine hQ w29 ?_ ((F10.trans F21).trans F29)
            unfold passS
            rw [if_neg (Int32.not_lt.mpr z)]
            rw [mm_come _ _ _ (by decide), mm_um_ne _ _ _ (by decide), mm_ur] at R29
            simp only [hg, hk2, ht]
            exact R29
      · refine hQ w ?_ FM.rfl
        unfold passS
        rw [if_neg (Int32.not_lt.mpr z)]
        cases hg : giverS S b b with
        | none => exact h
        | some k =>
          rw [hg] at z1
          obtain ⟨x, hx, hk⟩ := giver_some b k hg
          obtain ⟨j, t, ht, -, -, ⟨y, hy, hky⟩, h7, -⟩ := cand_some hS hk
          exact absurd z1 (nI_nm (by omega))
  · unfold passS
    rw [if_pos (Int32.not_le.mp z)]
    exact h
theorem M_exchange {b : Nat} {Q : Wd → Prop} (h : RM S w m A) (hS : okS S) (hS1 : okS (outS S b)) (hb : b < nB S) (he : (eds S).length < 5990) (hQ : ∀ w', RM (exchS S b) w' m A → FM m A w w' → Q w') : wp_Mo_exchange e0 mi m (nI b) w Q := by
  have hr := okS_R hS
  have hb8 : b < 8 := by have := hS.1.1; omega
  have hg60 : (gos S).length ≤ 60 := by
    have := nodup_le (nT S) (gos S) hS.2.2.2.2.2.2.1.1 (fun i hi => ⟨(hS.2.2.2.2.2.2.1.2 i hi).1, (hS.2.2.2.2.2.2.1.2 i hi).2.1⟩)
    have := hS.1.2.1
    omega
  have same : outS S b = S → ∀ x2 : Int32, wb_Mo_exchange_78 e0 mi Q m (nI b) x2 w := fun hs x2 => M_pass h hS hb (by omega) (fun w' R' F' => hQ w' (by unfold exchS; rw [hs]; exact R') F')
  unfold wp_Mo_exchange
  refine ⟨h.1.1, M_atEnd h hb8 hr ?_⟩
  cases ha : atEndS S b with
  | none =>
    have hs : outS S b = S := by unfold outS; rw [ha]
    exact ⟨fun _ => same hs _, fun z => absurd (nI_le (a := 0) (b := 0) (Nat.le_refl _) (by omega)) z⟩
  | some i =>
    obtain ⟨t, ht, hpl⟩ := atEnd_some ha
    have hi := hS.2.2.1 b i (by rw [ht]; exact List.mem_cons_self)
    have hi61 : i < 61 := by have := hi.2.1; have := hS.1.2.1; omega
    have ci : (nI i).toNatClampNeg = i := nI_clamp (by omega)
    rw [show ((some i).getD 0) = i from rfl]
    refine ⟨fun z => absurd z (nI_nle hi.1 (by omega)), fun _ => ⟨h.1.1, M_goesBy h hb8 hi61 hi.2.2.2.1 hi.2.2.2.2 ?_⟩⟩
    rcases goes_gb (b := b) hi.2.2.2.2 with ⟨g1, g2⟩ | ⟨y, y1, g1, g2, -⟩
    · rw [g1]
      refine ⟨fun q => absurd rfl q, fun _ => ⟨h.1.1, ?_⟩⟩
      have hi0 : (rr S b)[0]? = some i := by rw [ht]; rfl
      refine M_leave h hb8 hi61 hi.2.2.2.1 hi0 (fun q hq => by omega) hr (fun w21 R21 F21 => ⟨R21.1.1, ldA R21.1 13 (n := 61) rfl (by decide) rfl rfl hi61 ?_⟩)
      rw [ci]
      have R22 := RM_um R21 (k := 13) (i := i) (by unfold isInt; decide) 1
      have F22 := F21.ar (k := 13) (by decide) (isM_ne h.1 (by decide)) i 1
      have l22 : wI (sI w21 (A 13) i 1) m 29 = nI (gos S).length := R22.2.2.1.2.2.2.2.2
      generalize sI w21 (A 13) i 1 = u22 at R22 F22 l22 ⊢
      refine ldA R22.1 31 (n := 60) rfl (by decide) rfl l22 (by
        have : (gos S).length < 60 := by
          have hni : i ∉ gos S := fun q => by
            have := (hS.2.2.2.2.2.2.1.2 i q).2.2
            rw [hi.2.2.1] at this
            exact absurd this (by decide)
          have := nodup_le (nT S) (i :: gos S) (List.nodup_cons.mpr ⟨hni, hS.2.2.2.2.2.2.1.1⟩) (fun j hj => by
            rcases List.mem_cons.mp hj with q | q
            · rw [q]; exact ⟨hi.1, hi.2.1⟩
            · exact ⟨(hS.2.2.2.2.2.2.1.2 j q).1, (hS.2.2.2.2.2.2.1.2 j q).2.1⟩)
          have := hS.1.2.1
          simp at *
          omega
        exact this) ?_
      rw [l22, nI_clamp (by omega)]
      have R23 := RM_go R22 i
      have F23 := (F22.ar (k := 31) (by decide) (isM_ne h.1 (by decide)) (gos S).length (nI i)).sc (s := 29) (by decide) (nI ((gos S).length + 1))
      have l23 : wI (sI u22 (A 31) (gos S).length (nI i)) m 29 = nI (gos S).length := by rw [sc_a R22.1 (by decide), l22]
      rw [l23, nI_1]
      have R23' : RM (ug (um (ur S b ((rr S b).eraseIdx 0)) 13 i 1) (gos S ++ [i])) (sI (sI u22 (A 31) (gos S).length (nI i)) m 29 (nI ((gos S).length + 1))) m A := R23
      generalize sI (sI u22 (A 31) (gos S).length (nI i)) m 29 (nI ((gos S).length + 1)) = u23 at R23' F23 ⊢
      refine ldA R23'.1 20 (n := 61) rfl (by decide) rfl rfl hi61 ?_
      have v30 : wI u23 m 30 = mm S 30 0 := by
        rw [R23'.2.1.2.2, mm_ug, mm_um_ne _ _ _ (by decide), mm_ur]
      have v1 : wI u23 m 1 = mm S 1 0 := by
        rw [R23'.2.1.1, mm_ug, mm_um_ne _ _ _ (by decide), mm_ur]
      have v20 : wI u23 (A 20) i = mm S 20 i := by
        rw [R23'.2.2.2.1 20 (by unfold isInt; decide) i hi61, mm_ug, mm_um_ne _ _ _ (by decide), mm_ur]
      rw [v30, v1, v20]
      have R24 := RM_sum R23' (mm S 30 0 + (mm S 1 0 - mm S 20 i))
      have F24 := F23.sc (s := 30) (by decide) (mm S 30 0 + (mm S 1 0 - mm S 20 i))
      refine M_tell (kd := 1) R24 (by rw [eds_um, eds_ug, eds_um, eds_ur]; omega) (fun w38 R38 F38 => ?_)
      have hout : outS S b = tellS (um (ug (um (ur S b ((rr S b).eraseIdx 0)) 13 i 1) (gos S ++ [i])) 30 0 (mm S 30 0 + (mm S 1 0 - mm S 20 i))) (mm S 1 0, 1, i, b) := by
        unfold outS; rw [ha]; simp only [g2]
      rw [mm_um_ne _ _ _ (by decide), mm_ug, mm_um_ne _ _ _ (by decide), mm_ur, ← hout] at R38
      have hlo : (eds (outS S b)).length = (eds S).length + 1 := by rw [hout]; unfold tellS; rw [eds_ue, eds_um, eds_ug, eds_um, eds_ur]; simp
      have hnb : nB (outS S b) = nB S := by rw [hout]; rfl
      exact M_pass R38 hS1 (by rw [hnb]; exact hb) (by omega) (fun w' R' F' => hQ w' R' ((F24.trans F38).trans F'))
    · rw [g1]
      have hs : outS S b = S := by unfold outS; rw [ha]; simp only [g2]
      exact ⟨fun _ => same hs _, fun q => absurd q (nI_nm (by omega))⟩
end MO
