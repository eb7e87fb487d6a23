/-! THE CLASS: all items of a belt move -/
theorem uC_mv1 {S : St} (hw : (wts S).length ≤ wX S) (b : Nat) (most : Int32) (i : Nat) : usC S ≤ usC (mv1S S b most i) ∧ usS S ≤ usS (mv1S S b most i) ∧ (wts (mv1S S b most i)).length ≤ wX (mv1S S b most i) := by
  have e : mv1S S b most i = waitS (um (um S 19 i (expS S b i)) 15 i (toS S b most i)) (rdsS (um (um S 19 i (expS S b i)) 15 i (toS S b most i)) b i (mm S 15 i) (toS S b most i) (nS S)) := by
    unfold mv1S; rw [rds_um (by decide), rds_um (by decide)]
  have hw1 : (wts (um (um S 19 i (expS S b i)) 15 i (toS S b most i))).length ≤ wX (um (um S 19 i (expS S b i)) 15 i (toS S b most i)) := hw
  have m := rds_mono (b := b) (i := i) (o := mm S 15 i) (n := toS S b most i) hw1 (nS S) 0
  rw [Nat.zero_add] at m
  have n0 : rdsS (um (um S 19 i (expS S b i)) 15 i (toS S b most i)) b i (mm S 15 i) (toS S b most i) 0 = [] := rfl
  rw [n0, wait_nil hw1] at m
  have u1 : usC (um (um S 19 i (expS S b i)) 15 i (toS S b most i)) = usC S := rfl
  have u2 : usS (um (um S 19 i (expS S b i)) 15 i (toS S b most i)) = usS S := rfl
  rw [u1, u2] at m
  rw [e]
  refine ⟨m.2.1, m.2.2, ?_⟩
  show (wts S ++ _).length ≤ max (wX S) (wts S ++ _).length
  exact Nat.le_max_right _ _
theorem uC_mvL {b : Nat} : ∀ (l : List Nat) (S : St) (p : Option Nat), (wts S).length ≤ wX S → usC S ≤ usC (mvLS S b p l) ∧ usS S ≤ usS (mvLS S b p l) ∧ (wts (mvLS S b p l)).length ≤ wX (mvLS S b p l)
  | [], S, p, h => by unfold mvLS; exact ⟨Nat.le_refl _, Nat.le_refl _, h⟩
  | i :: t, S, p, h => by
    unfold mvLS
    have h1 := uC_mv1 h b (mostS S b p) i
    have h2 := uC_mvL (b := b) t (mv1S S b (mostS S b p) i) (some i) h1.2.2
    exact ⟨Nat.le_trans h1.1 h2.1, Nat.le_trans h1.2.1 h2.2.1, h2.2.2⟩
section CL
variable {e0 mi q : Nat} {LE : List (Nat × Ed)}
theorem C_move_l {b : Nat} {l : List Nat} {P0 : Nat → Nat → Nat} {w0 : Wd} {Q : Wd → Prop} : ∀ (n k : Nat) (S : St) (w : Wd) (P : Nat → Nat → Nat) (LW : List (Nat × Ed)) (nc ns : Nat), k + n = l.length → rr S b = l → okS S → b < nB S → RC e0 S w q P LE LW → Pk P0 P → FrC w0 w → (wts (mvLS S b (prevS l k) (l.drop k))).length < 4096 → usC (mvLS S b (prevS l k) (l.drop k)) ≤ usC S + nc → usS (mvLS S b (prevS l k) (l.drop k)) ≤ usS S + ns →
    (∀ w' P' LW', RC e0 (mvLS S b (prevS l k) (l.drop k)) w' q P' LE LW' → Pk P0 P' → FrC w0 w' → Q w') → wb_Br_moveItems_5 e0 mi Q (n + 1) q (some (P0 0 b)) (l[k]?.map (P0 1)) w nc ns := by
  intro n
  induction n with
  | zero =>
    intro k S w P LW nc ns hk hr hS hb R hP F hwt hc hs hQ
    have hkl : k = l.length := by omega
    have hd : l.drop k = [] := by rw [hkl]; exact List.drop_length
    rw [hd] at hQ
    unfold mvLS at hQ
    unfold wb_Br_moveItems_5
    rw [List.getElem?_eq_none (by omega)]
    exact ⟨fun _ => hQ w P LW R hP F, fun z => absurd rfl z⟩
  | succ n ih =>
    intro k S w P LW nc ns hk hr hS hb R hP F hwt hc hs hQ
    have hkl : k < l.length := by omega
    obtain ⟨i, hi⟩ : ∃ i, l[k]? = some i := ⟨l[k], List.getElem?_eq_getElem hkl⟩
    have hpi : (rr S b)[k]? = some i := by rw [hr]; exact hi
    have him := List.mem_of_getElem? hpi
    obtain ⟨-, i1, i2', i3, i4, i5, b8, i61⟩ := in_row hS him
    have hd : l.drop k = i :: l.drop (k + 1) := by
      rw [List.drop_eq_getElem_cons hkl]
      have := List.getElem?_eq_getElem hkl
      rw [hi] at this
      cases this
      rfl
    have hp1 : prevS l (k + 1) = some i := by unfold prevS; rw [if_neg (by omega)]; exact hi
    rw [hd] at hQ hwt hc hs
    have em : mvLS S b (prevS l k) (i :: l.drop (k + 1)) = mvLS (mv1S S b (mostS S b (prevS l k)) i) b (prevS l (k + 1)) (l.drop (k + 1)) := by
      rw [hp1]; conv => lhs; unfold mvLS
    rw [em] at hQ hwt hc hs
    have hw := wx_ge R
    have u1 := uC_mv1 hw b (mostS S b (prevS l k)) i
    have u2 := uC_mvL (b := b) (l.drop (k + 1)) (mv1S S b (mostS S b (prevS l k)) i) (prevS l (k + 1)) u1.2.2
    have hw1 : (wts (mv1S S b (mostS S b (prevS l k)) i)).length < 4096 := Nat.lt_of_le_of_lt (wts_mvL b _ _ _) hwt
    have hP0 : P 0 = P0 0 := hP 0 (by decide)
    have hP1 : P 1 = P0 1 := hP 1 (by decide)
    have h5i := R.2.2.2.2.1.1 i i1 i2'
    unfold wb_Br_moveItems_5
    rw [hi, show (some i).map (P0 1) = some (P 1 i) by rw [hP1]; rfl]
    refine ⟨fun z => absurd z (by simp), fun _ => ⟨P 1 i, rfl, h5i.1, fun i4' e4 => ⟨R.1.1, ?_⟩⟩⟩
    rw [(h5i.2.2.2.2.2.2 i3).1] at e4
    subst e4
    rw [R.1.2.1, ← hP0]
    refine C_goOn R hS hpi (fun w7 R7 F7 => ⟨R7.1.1, usC (mv1S S b (mostS S b (prevS l k)) i) - usC S, usS (mv1S S b (mostS S b (prevS l k)) i) - usS S, by omega, by omega, ?_⟩)
    rw [hr] at R7
    have R7' : RC e0 (um (um S 19 i (expS S b i)) 15 i (toS S b (mostS S b (prevS l k)) i)) w7 q P LE LW := R7
    have ok1 : okS (um (um S 19 i (expS S b i)) 15 i (toS S b (mostS S b (prevS l k)) i)) := ok_um (ok_um hS (by unfold okSlot; decide) _ _) (by unfold okSlot; decide) _ _
    have e15 : mm (um (um S 19 i (expS S b i)) 15 i (toS S b (mostS S b (prevS l k)) i)) 15 i = toS S b (mostS S b (prevS l k)) i := mm_um_at _ _ _ _
    have er : waitS (um (um S 19 i (expS S b i)) 15 i (toS S b (mostS S b (prevS l k)) i)) (rdsS (um (um S 19 i (expS S b i)) 15 i (toS S b (mostS S b (prevS l k)) i)) b i (mm S 15 i) (mm (um (um S 19 i (expS S b i)) 15 i (toS S b (mostS S b (prevS l k)) i)) 15 i) (nS S)) = mv1S S b (mostS S b (prevS l k)) i := by
      rw [e15]; unfold mv1S; rw [rds_um (by decide), rds_um (by decide)]
    have hw' : (wts (um (um S 19 i (expS S b i)) 15 i (toS S b (mostS S b (prevS l k)) i))).length ≤ wX (um (um S 19 i (expS S b i)) 15 i (toS S b (mostS S b (prevS l k)) i)) := hw
    unfold wp_Br_noteReads
    refine ⟨nS S + 1, ?_⟩
    have G := C_notes_l (e0 := e0) (mi := mi) (q := q) (LE := LE) (S := um (um S 19 i (expS S b i)) 15 i (toS S b (mostS S b (prevS l k)) i)) (b := b) (i := i) (old := mm S 15 i) (P0 := P) (w0 := w7) (Q := fun w15 => bw_is w15 (P 1 i) 2 ∧ ∀ r22 : Option Nat, r22 = wR w15 (P 1 i) 5 → wb_Br_moveItems_5 e0 mi Q (n + 1) q (some (P 0 b)) r22 w15 (nc - (usC (mv1S S b (mostS S b (prevS l k)) i) - usC S)) (ns - (usS (mv1S S b (mostS S b (prevS l k)) i) - usS S))) ok1 him hw ?_ ?_ (nS S) 0 w7 P LW (usC (mv1S S b (mostS S b (prevS l k)) i) - usC S) (usS (mv1S S b (mostS S b (prevS l k)) i) - usS S) (by show 0 + nS S = nS S; omega) ?_ Pk.rfl FrC.rfl ?_ ?_
    · exact G
    · have := congrArg (fun T => (wts T).length) er
      show (wts S ++ rdsS (um (um S 19 i (expS S b i)) 15 i (toS S b (mostS S b (prevS l k)) i)) b i (mm S 15 i) (mm (um (um S 19 i (expS S b i)) 15 i (toS S b (mostS S b (prevS l k)) i)) 15 i) (nS S)).length < 4096
      have h2 : (wts S ++ rdsS (um (um S 19 i (expS S b i)) 15 i (toS S b (mostS S b (prevS l k)) i)) b i (mm S 15 i) (mm (um (um S 19 i (expS S b i)) 15 i (toS S b (mostS S b (prevS l k)) i)) 15 i) (nS S)).length = (wts (mv1S S b (mostS S b (prevS l k)) i)).length := this
      omega
    · intro w15 P' LW' R15 hP' F15
      have R15' : RC e0 (mv1S S b (mostS S b (prevS l k)) i) w15 q P' LE LW' := er ▸ R15
      have hP1' : P' 1 = P 1 := hP' 1 (by decide)
      have okm : okS (mv1S S b (mostS S b (prevS l k)) i) := ok_mv1 hS (by omega)
      refine ⟨?_, fun r22 e22 => ?_⟩
      · have := (R15'.2.2.2.2.1.1 i i1 i2').1
        rw [hP1'] at this; exact this
      · have lk := (R15'.2.2.2.2.2.1 b k i hpi).2
        rw [hP1'] at lk
        have hr22 : r22 = l[k + 1]?.map (P0 1) := by rw [e22, lk, ← hP1]; show ((rr S b)[k + 1]?).map (P 1) = _; rw [hr]
        rw [hr22, hP0]
        exact ih (k + 1) (mv1S S b (mostS S b (prevS l k)) i) w15 P' LW' _ _ (by omega) hr okm hb R15' (hP.trans hP') ((F.trans F7).trans F15) hwt (by omega) (by omega) hQ
    · have n0 : rdsS (um (um S 19 i (expS S b i)) 15 i (toS S b (mostS S b (prevS l k)) i)) b i (mm S 15 i) (mm (um (um S 19 i (expS S b i)) 15 i (toS S b (mostS S b (prevS l k)) i)) 15 i) 0 = [] := rfl
      rw [n0, wait_nil hw']; exact R7'
    · have n0 : rdsS (um (um S 19 i (expS S b i)) 15 i (toS S b (mostS S b (prevS l k)) i)) b i (mm S 15 i) (mm (um (um S 19 i (expS S b i)) 15 i (toS S b (mostS S b (prevS l k)) i)) 15 i) 0 = [] := rfl
      rw [n0, wait_nil hw']
      have h1 : usC (waitS (um (um S 19 i (expS S b i)) 15 i (toS S b (mostS S b (prevS l k)) i)) (rdsS (um (um S 19 i (expS S b i)) 15 i (toS S b (mostS S b (prevS l k)) i)) b i (mm S 15 i) (mm (um (um S 19 i (expS S b i)) 15 i (toS S b (mostS S b (prevS l k)) i)) 15 i) (nS S))) = usC (mv1S S b (mostS S b (prevS l k)) i) := congrArg usC er
      have h2 : usC (um (um S 19 i (expS S b i)) 15 i (toS S b (mostS S b (prevS l k)) i)) = usC S := rfl
      show usC (waitS (um (um S 19 i (expS S b i)) 15 i (toS S b (mostS S b (prevS l k)) i)) (rdsS (um (um S 19 i (expS S b i)) 15 i (toS S b (mostS S b (prevS l k)) i)) b i (mm S 15 i) (mm (um (um S 19 i (expS S b i)) 15 i (toS S b (mostS S b (prevS l k)) i)) 15 i) (nS S))) ≤ _
      rw [h1, h2]; omega
    · have n0 : rdsS (um (um S 19 i (expS S b i)) 15 i (toS S b (mostS S b (prevS l k)) i)) b i (mm S 15 i) (mm (um (um S 19 i (expS S b i)) 15 i (toS S b (mostS S b (prevS l k)) i)) 15 i) 0 = [] := rfl
      rw [n0, wait_nil hw']
      have h1 : usS (waitS (um (um S 19 i (expS S b i)) 15 i (toS S b (mostS S b (prevS l k)) i)) (rdsS (um (um S 19 i (expS S b i)) 15 i (toS S b (mostS S b (prevS l k)) i)) b i (mm S 15 i) (mm (um (um S 19 i (expS S b i)) 15 i (toS S b (mostS S b (prevS l k)) i)) 15 i) (nS S))) = usS (mv1S S b (mostS S b (prevS l k)) i) := congrArg usS er
      have h2 : usS (um (um S 19 i (expS S b i)) 15 i (toS S b (mostS S b (prevS l k)) i)) = usS S := rfl
      show usS (waitS (um (um S 19 i (expS S b i)) 15 i (toS S b (mostS S b (prevS l k)) i)) (rdsS (um (um S 19 i (expS S b i)) 15 i (toS S b (mostS S b (prevS l k)) i)) b i (mm S 15 i) (mm (um (um S 19 i (expS S b i)) 15 i (toS S b (mostS S b (prevS l k)) i)) 15 i) (nS S))) ≤ _
      rw [h1, h2]; omega
theorem C_move {S : St} {w : Wd} {P : Nat → Nat → Nat} {LW : List (Nat × Ed)} {b nc ns : Nat} {Q : Wd → Prop} (R : RC e0 S w q P LE LW) (hS : okS S) (hb : b < nB S) (hwt : (wts (moveS S b)).length < 4096) (hc : usC (moveS S b) ≤ usC S + nc) (hs : usS (moveS S b) ≤ usS S + ns)
    (hQ : ∀ w' P' LW', RC e0 (moveS S b) w' q P' LE LW' → Pk P P' → FrC w w' → Q w') : wp_Br_moveItems e0 mi q (some (P 0 b)) w nc ns Q := by
  have h3b := R.2.2.1.1 b hb
  unfold wp_Br_moveItems
  refine ⟨P 0 b, rfl, h3b.1, fun r3 e3 => ⟨(rr S b).length + 1, ?_⟩⟩
  rw [e3, h3b.2.2.2.2.2.2.1]
  exact C_move_l (l := rr S b) (P0 := P) (w0 := w) (rr S b).length 0 S w P LW nc ns (by omega) rfl hS hb R Pk.rfl FrC.rfl hwt hc hs hQ
end CL
