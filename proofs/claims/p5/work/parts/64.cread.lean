/-! THE CLASS: what is read is told, all of it -/
def dueP (T : Int32) (x : Nat × Ed) : Bool := decide (x.2.1 = T)
def kepP (T : Int32) (x : Nat × Ed) : Bool := decide (¬ x.2.1 = T)
section CL
variable {e0 mi q : Nat} {S : St} {LE LW : List (Nat × Ed)}
theorem C_reads {P0 : Nat → Nat → Nat} {w0 : Wd} {Q : Wd → Prop} (hS : okS S) (hE : LE.map Prod.snd = eds S) (hW : LW.map Prod.snd = wts S) (hl : (LE ++ LW.filter (dueP (mm S 1 0))).length < 4096) (hl2 : LW.length < 4096)
    (hQ : ∀ w' P', RC e0 (uw (ue S ((LE ++ LW.filter (dueP (mm S 1 0))).map Prod.snd)) ((LW.filter (kepP (mm S 1 0))).map Prod.snd) (wX S)) w' q P' (LE ++ LW.filter (dueP (mm S 1 0))) (LW.filter (kepP (mm S 1 0))) → Pk P0 P' → FrC w0 w' → Q w') :
    ∀ (n k : Nat) (w : Wd) (P : Nat → Nat → Nat) (nc ns : Nat), k + n = LW.length → RC e0 (uw (ue S ((LE ++ (LW.take k).filter (dueP (mm S 1 0))).map Prod.snd)) (((LW.take k).filter (kepP (mm S 1 0)) ++ LW.drop ((LW.take k).filter (kepP (mm S 1 0))).length).map Prod.snd) (wX S)) w q P (LE ++ (LW.take k).filter (dueP (mm S 1 0))) ((LW.take k).filter (kepP (mm S 1 0)) ++ LW.drop ((LW.take k).filter (kepP (mm S 1 0))).length) → Pk P0 P → FrC w0 w →
      cc (LE ++ LW.filter (dueP (mm S 1 0))).length ≤ cc (LE ++ (LW.take k).filter (dueP (mm S 1 0))).length + nc → cs (LE ++ LW.filter (dueP (mm S 1 0))).length ≤ cs (LE ++ (LW.take k).filter (dueP (mm S 1 0))).length + ns →
      wb_Br_tellReads_12 e0 mi Q (n + 1) q (nI LW.length) (nI ((LW.take k).filter (kepP (mm S 1 0))).length) (nI k) w nc ns := by
  have eW : ∀ x ∈ LW, x.2.2.1 = 0 ∧ x.2.2.2.1 ≤ 60 ∧ x.2.2.2.2 < 8 := fun x hx => hS.2.2.2.2.2.2.2.2.1 x.2 (by rw [← hW]; exact List.mem_map.mpr ⟨x, hx, rfl⟩)
  have eE : ∀ x ∈ LE, x.2.2.1 < 3 ∧ x.2.2.2.1 ≤ 60 ∧ x.2.2.2.2 < 8 := fun x hx => hS.2.2.2.2.2.2.2.2.2 x.2 (by rw [← hE]; exact List.mem_map.mpr ⟨x, hx, rfl⟩)
  have ccm : ∀ (d n : Nat), cc n ≤ cc (n + d) ∧ cs n ≤ cs (n + d) := fun d => by
    induction d with
    | zero => intro n; exact ⟨Nat.le_refl _, Nat.le_refl _⟩
    | succ d ih =>
      intro n
      have h1 := ih n
      have h2 : cc (n + (d + 1)) = cc (n + d) + gC (n + d) (n + d) := rfl
      have h3 : cs (n + (d + 1)) = cs (n + d) + gS (n + d) (n + d) := rfl
      omega
  intro n
  induction n with
  | zero =>
    intro k w P nc ns hk R hP F hc hs
    have hkk : k = LW.length := by omega
    subst hkk
    rw [List.take_length] at R ⊢
    have hkl : (LW.filter (kepP (mm S 1 0))).length ≤ LW.length := List.length_filter_le _ _
    unfold wb_Br_tellReads_12
    refine ⟨fun _ i2 e2 => ⟨LW.length - (LW.filter (kepP (mm S 1 0))).length + 1, ?_⟩, fun z => absurd (nI_le (Nat.le_refl _) (by omega)) z⟩
    rw [e2, Int32.sub_eq_add_neg]
    have okb : okS (ue S ((LE ++ LW.filter (dueP (mm S 1 0))).map Prod.snd)) := by
      have := ok_lists (S := S) (E := (LE ++ LW.filter (dueP (mm S 1 0))).map Prod.snd) (L := wts S) (n := wX S) hS (fun e he => by
        obtain ⟨y, hy, rfl⟩ := List.mem_map.mp he
        rcases List.mem_append.mp hy with z | z
        · exact eE y z
        · have := eW y (List.mem_filter.mp z).1
          exact ⟨by omega, this.2⟩) hS.2.2.2.2.2.2.2.2.1
      exact this
    have G := C_pops (e0 := e0) (mi := mi) (q := q) (P := P) (S := ue S ((LE ++ LW.filter (dueP (mm S 1 0))).map Prod.snd)) (LE := LE ++ LW.filter (dueP (mm S 1 0))) (K := LW.filter (kepP (mm S 1 0))) (x1 := nI LW.length) (w0 := w0) (nc := nc) (ns := ns) (Q := Q) okb rfl (fun x hx => eW x (List.mem_filter.mp hx).1) (by omega) (fun w' R' F' => hQ w' P R' hP F') (LW.length - (LW.filter (kepP (mm S 1 0))).length) (LW.drop (LW.filter (kepP (mm S 1 0))).length) w (by rw [List.length_drop]) (by omega) (fun x hx => eW x (List.mem_of_mem_drop hx)) R F
    rw [show (LW.filter (kepP (mm S 1 0))).length + (LW.length - (LW.filter (kepP (mm S 1 0))).length) = LW.length by omega] at G
    exact G
  | succ n ih =>
    intro k w P nc ns hk R hP F hc hs
    have hkl0 : k < LW.length := by omega
    obtain ⟨y, hy⟩ : ∃ y, LW[k]? = some y := ⟨LW[k], List.getElem?_eq_getElem hkl0⟩
    have hym := List.mem_of_getElem? hy
    have htk : LW.take (k + 1) = LW.take k ++ [y] := by rw [List.take_add_one, hy]; rfl
    have hkl : ((LW.take k).filter (kepP (mm S 1 0))).length ≤ k := by
      refine Nat.le_trans (List.length_filter_le _ _) ?_
      rw [List.length_take]; omega
    have okk : okS (uw (ue S ((LE ++ (LW.take k).filter (dueP (mm S 1 0))).map Prod.snd)) (((LW.take k).filter (kepP (mm S 1 0)) ++ LW.drop ((LW.take k).filter (kepP (mm S 1 0))).length).map Prod.snd) (wX S)) := ok_lists hS (fun e he => by
        obtain ⟨z, hz, rfl⟩ := List.mem_map.mp he
        rcases List.mem_append.mp hz with u | u
        · exact eE z u
        · have := eW z (List.mem_of_mem_take (List.mem_filter.mp u).1)
          exact ⟨by omega, this.2⟩) (fun e he => by
        obtain ⟨z, hz, rfl⟩ := List.mem_map.mp he
        rcases List.mem_append.mp hz with u | u
        · exact eW z (List.mem_of_mem_take (List.mem_filter.mp u).1)
        · exact eW z (List.mem_of_mem_drop u))
    have hLk : ((LW.take k).filter (kepP (mm S 1 0)) ++ LW.drop ((LW.take k).filter (kepP (mm S 1 0))).length)[k]? = some y := by
      rw [List.getElem?_append_right hkl, List.getElem?_drop, show ((LW.take k).filter (kepP (mm S 1 0))).length + (k - ((LW.take k).filter (kepP (mm S 1 0))).length) = k by omega]
      exact hy
    have hE2 := R.2.2.2.2.2.2.2.2.2.2 y (List.mem_of_getElem? hLk)
    have hK4 := R.2.1.1 4 (by decide)
    have hgf : (lsx (uw (ue S ((LE ++ (LW.take k).filter (dueP (mm S 1 0))).map Prod.snd)) (((LW.take k).filter (kepP (mm S 1 0)) ++ LW.drop ((LW.take k).filter (kepP (mm S 1 0))).length).map Prod.snd) (wX S)) P (LE ++ (LW.take k).filter (dueP (mm S 1 0))) ((LW.take k).filter (kepP (mm S 1 0)) ++ LW.drop ((LW.take k).filter (kepP (mm S 1 0))).length) 4)[k]? = some y.1 := by
      show (((LW.take k).filter (kepP (mm S 1 0)) ++ LW.drop ((LW.take k).filter (kepP (mm S 1 0))).length).map Prod.fst)[k]? = some y.1
      rw [List.getElem?_map, hLk]; rfl
    unfold wb_Br_tellReads_12
    refine ⟨fun z => absurd z (nI_ge hkl0 (by omega)), fun _ => ⟨R.1.1, P 6 4, R.1.2.2.2.2 4 (by decide), hK4.1, isK_get hK4 hgf ⟨fun a ha => (by cases ha; exact hE2.1), y.1, rfl, hE2.1, R.1.1, ?_⟩⟩⟩
    have v7 : wI w q 7 = mm S 1 0 := R.1.2.2.1
    rw [hE2.2.1, v7]
    refine ⟨fun z => ⟨P 6 4, R.1.2.2.2.2 4 (by decide), hK4.1, ?_⟩, fun z => ?_⟩
    · have hkp : kepP (mm S 1 0) y = true := by unfold kepP; exact decide_eq_true z
      have hdp : dueP (mm S 1 0) y = false := by unfold dueP; exact decide_eq_false z
      have hf : (LW.take (k + 1)).filter (kepP (mm S 1 0)) = (LW.take k).filter (kepP (mm S 1 0)) ++ [y] := by
        rw [htk, List.filter_append]; congr 1; simp [hkp]
      have hg : (LW.take (k + 1)).filter (dueP (mm S 1 0)) = (LW.take k).filter (dueP (mm S 1 0)) := by
        rw [htk, List.filter_append]; simp [hdp]
      obtain ⟨u, hu⟩ : ∃ u, ((LW.take k).filter (kepP (mm S 1 0)) ++ LW.drop ((LW.take k).filter (kepP (mm S 1 0))).length)[((LW.take k).filter (kepP (mm S 1 0))).length]? = some u := by
        refine ⟨LW[((LW.take k).filter (kepP (mm S 1 0))).length]'(by omega), ?_⟩
        rw [List.getElem?_append_right (Nat.le_refl _), Nat.sub_self, List.getElem?_drop, Nat.add_zero]
        exact List.getElem?_eq_getElem (by omega)
      refine C_waitSet (a := y.1) (e := y.2) R okk hE2 hu (fun w23 R23 F23 i29 e29 => ?_)
      unfold wb_Br_tellReads_65
      intro i1 e1
      rw [e1, e29, nI_1, nI_1]
      have hset : ((LW.take k).filter (kepP (mm S 1 0)) ++ LW.drop ((LW.take k).filter (kepP (mm S 1 0))).length).set ((LW.take k).filter (kepP (mm S 1 0))).length (y.1, y.2) = ((LW.take k).filter (kepP (mm S 1 0)) ++ [y]) ++ LW.drop ((LW.take k).filter (kepP (mm S 1 0)) ++ [y]).length := by
        rw [List.set_append_right _ _ (Nat.le_refl _), Nat.sub_self, List.append_assoc]
        congr 1
        rw [drop_set0 (by omega), List.length_append]
        rfl
      rw [hset, ← hf, ← hg] at R23
      have hkl1 : ((LW.take k).filter (kepP (mm S 1 0))).length + 1 = ((LW.take (k + 1)).filter (kepP (mm S 1 0))).length := by rw [hf]; simp
      rw [hkl1]
      exact ih (k + 1) w23 P nc ns (by omega) R23 hP (F.trans F23) (by rw [hg]; exact hc) (by rw [hg]; exact hs)
    · have hkp : kepP (mm S 1 0) y = false := by unfold kepP; exact decide_eq_false (fun q => q z)
      have hdp : dueP (mm S 1 0) y = true := by unfold dueP; exact decide_eq_true z
      have hf : (LW.take (k + 1)).filter (kepP (mm S 1 0)) = (LW.take k).filter (kepP (mm S 1 0)) := by
        rw [htk, List.filter_append]; simp [hkp]
      have hg : (LW.take (k + 1)).filter (dueP (mm S 1 0)) = (LW.take k).filter (dueP (mm S 1 0)) ++ [y] := by
        rw [htk, List.filter_append]; congr 1; simp [hdp]
      have hle : (LE ++ (LW.take (k + 1)).filter (dueP (mm S 1 0))).length ≤ (LE ++ LW.filter (dueP (mm S 1 0))).length := by
        have h1 : (LW.filter (dueP (mm S 1 0))) = (LW.take (k + 1)).filter (dueP (mm S 1 0)) ++ (LW.drop (k + 1)).filter (dueP (mm S 1 0)) := by
          rw [← List.filter_append, List.take_append_drop]
        rw [List.length_append, List.length_append, h1, List.length_append]; omega
      have hl1 : (LE ++ (LW.take (k + 1)).filter (dueP (mm S 1 0))).length = (LE ++ (LW.take k).filter (dueP (mm S 1 0))).length + 1 := by
        rw [hg, ← List.append_assoc, List.length_append (as := LE ++ _)]; rfl
      have hcm := ccm ((LE ++ LW.filter (dueP (mm S 1 0))).length - (LE ++ (LW.take (k + 1)).filter (dueP (mm S 1 0))).length) (LE ++ (LW.take (k + 1)).filter (dueP (mm S 1 0))).length
      rw [show (LE ++ (LW.take (k + 1)).filter (dueP (mm S 1 0))).length + ((LE ++ LW.filter (dueP (mm S 1 0))).length - (LE ++ (LW.take (k + 1)).filter (dueP (mm S 1 0))).length) = (LE ++ LW.filter (dueP (mm S 1 0))).length by omega] at hcm
      have c1' : cc (LE ++ (LW.take (k + 1)).filter (dueP (mm S 1 0))).length = cc (LE ++ (LW.take k).filter (dueP (mm S 1 0))).length + gC (LE ++ (LW.take k).filter (dueP (mm S 1 0))).length (LE ++ (LW.take k).filter (dueP (mm S 1 0))).length := by rw [hl1]; rfl
      have c2' : cs (LE ++ (LW.take (k + 1)).filter (dueP (mm S 1 0))).length = cs (LE ++ (LW.take k).filter (dueP (mm S 1 0))).length + gS (LE ++ (LW.take k).filter (dueP (mm S 1 0))).length (LE ++ (LW.take k).filter (dueP (mm S 1 0))).length := by rw [hl1]; rfl
      have hel : (eds (uw (ue S ((LE ++ (LW.take k).filter (dueP (mm S 1 0))).map Prod.snd)) (((LW.take k).filter (kepP (mm S 1 0)) ++ LW.drop ((LW.take k).filter (kepP (mm S 1 0))).length).map Prod.snd) (wX S))).length = (LE ++ (LW.take k).filter (dueP (mm S 1 0))).length := by
        show ((LE ++ (LW.take k).filter (dueP (mm S 1 0))).map Prod.snd).length = _
        rw [List.length_map]
      refine ⟨gC (LE ++ (LW.take k).filter (dueP (mm S 1 0))).length (LE ++ (LW.take k).filter (dueP (mm S 1 0))).length, gS (LE ++ (LW.take k).filter (dueP (mm S 1 0))).length (LE ++ (LW.take k).filter (dueP (mm S 1 0))).length, by omega, by omega, C_tell R okk hE2 (by rw [hel]; omega) (by rw [hel]; exact Nat.le_refl _) (by rw [hel]; exact Nat.le_refl _) (fun w31 d3 R31 F31 => ?_)⟩
      unfold wb_Br_tellReads_65
      intro i1 e1
      rw [e1, nI_1, ← hf]
      refine ih (k + 1) w31 (Pn P 3 d3) _ _ (by omega) ?_ (hP.trans (Pk_n P 3 d3)) (F.trans F31) (by omega) (by omega)
      have est : tellS (uw (ue S ((LE ++ (LW.take k).filter (dueP (mm S 1 0))).map Prod.snd)) (((LW.take k).filter (kepP (mm S 1 0)) ++ LW.drop ((LW.take k).filter (kepP (mm S 1 0))).length).map Prod.snd) (wX S)) y.2 = uw (ue S ((LE ++ (LW.take (k + 1)).filter (dueP (mm S 1 0))).map Prod.snd)) (((LW.take (k + 1)).filter (kepP (mm S 1 0)) ++ LW.drop ((LW.take (k + 1)).filter (kepP (mm S 1 0))).length).map Prod.snd) (wX S) := by
        rw [hf, hg, ← List.append_assoc, List.map_append (l₁ := LE ++ _)]
        rfl
      rw [est] at R31
      rw [hg, ← List.append_assoc] at *
      rw [hf] at *
      exact R31
end CL
