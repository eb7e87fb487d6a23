/-! THE ROOM THAT A STATE HAS TAKEN: every call -/
theorem us_of {S S' : St} (a : nB S' = nB S) (b : nT S' = nT S) (c : nS S' = nS S) (d : (eds S').length = (eds S).length) (e : (wts S').length = (wts S).length) (f : wX S' = wX S) (g : (gos S').length = (gos S).length) : usC S' = usC S ∧ usS S' = usS S := by
  unfold usC usS
  rw [a, b, c, d, e, f, g]
  exact ⟨rfl, rfl⟩
theorem us_um (S : St) (k i : Nat) (v : Int32) : usC (um S k i v) = usC S ∧ usS (um S k i v) = usS S := us_of rfl rfl rfl rfl rfl rfl rfl
theorem us_leave (S : St) (b k i : Nat) (l : List Nat) (v : Int32) : usC (um (ur S b l) k i v) = usC S ∧ usS (um (ur S b l) k i v) = usS S := us_of rfl rfl rfl rfl rfl rfl rfl
theorem us_join (S : St) (k t : Nat) (sh : Int32) : usC (joinS S k t sh) = usC S ∧ usS (joinS S k t sh) = usS S := us_of rfl rfl rfl rfl rfl rfl rfl
theorem us_clean {b : Nat} : ∀ (n : Nat) (S : St), usC (cleanN S b n) = usC S ∧ usS (cleanN S b n) = usS S
  | 0, _ => ⟨rfl, rfl⟩
  | n + 1, S => by
    unfold cleanN
    cases hr : rr S b with
    | nil => exact ⟨rfl, rfl⟩
    | cons i t =>
      have h1 := us_clean (b := b) n (um (ur S b ((i :: t).eraseIdx 0)) 13 i 2)
      have h2 := us_leave S b 13 i ((i :: t).eraseIdx 0) 2
      exact ⟨h1.1.trans h2.1, h1.2.trans h2.2⟩
theorem us_belt (S : St) (l v : Int32) : usC (beltS S l v) = usC S + 3 + gC (nB S) (nB S) ∧ usS (beltS S l v) = usS S + 15 + gS (nB S) (nB S) := by
  have c1 : cc (nB S + 1) = cc (nB S) + gC (nB S) (nB S) := rfl
  have c2 : cs (nB S + 1) = cs (nB S) + gS (nB S) (nB S) := rfl
  have a : nT (beltS S l v) = nT S := rfl
  have b : nS (beltS S l v) = nS S := rfl
  have c : eds (beltS S l v) = eds S := rfl
  have d : wts (beltS S l v) = wts S := rfl
  have e : wX (beltS S l v) = wX S := rfl
  have f : gos (beltS S l v) = gos S := rfl
  unfold usC usS
  rw [nB_belt, a, b, c, d, e, f, c1, c2]
  exact ⟨by omega, by omega⟩
theorem us_scan (S : St) (x p d : Int32) : usC (scanS S x p d) = usC S + 1 + gC (nS S) (nS S) ∧ usS (scanS S x p d) = usS S + 4 + gS (nS S) (nS S) := by
  have c1 : cc (nS S + 1) = cc (nS S) + gC (nS S) (nS S) := rfl
  have c2 : cs (nS S + 1) = cs (nS S) + gS (nS S) (nS S) := rfl
  have a : nT (scanS S x p d) = nT S := rfl
  have b : nS (scanS S x p d) = nS S + 1 := rfl
  have b2 : nB (scanS S x p d) = nB S := rfl
  have c : eds (scanS S x p d) = eds S := rfl
  have d' : wts (scanS S x p d) = wts S := rfl
  have e : wX (scanS S x p d) = wX S := rfl
  have f : gos (scanS S x p d) = gos S := rfl
  unfold usC usS
  rw [a, b, b2, c, d', e, f, c1, c2]
  exact ⟨by omega, by omega⟩
theorem us_item (S : St) (b : Nat) (l : Int32) : usC (itemS S b l) = usC S + 1 + gC (nT S) (nT S) ∧ usS (itemS S b l) = usS S + 11 + gS (nT S) (nT S) := by
  have c1 : cc (nT S + 1) = cc (nT S) + gC (nT S) (nT S) := rfl
  have c2 : cs (nT S + 1) = cs (nT S) + gS (nT S) (nT S) := rfl
  have eT : nT (itemS S b l) = nT S + 1 := by unfold itemS comeS; rw [nT_ur, nT_um, nT_um, nT_um, nT_um, nT_um]; unfold item1; rw [nT_uT]
  have eB : nB (itemS S b l) = nB S := by unfold itemS comeS; rw [nB_ur, nB_um, nB_um, nB_um, nB_um, nB_um]; unfold item1; rw [nB_uT, nB_um, nB_um, nB_um]
  have eN : nS (itemS S b l) = nS S := by unfold itemS comeS; rw [nS_ur, nS_um, nS_um, nS_um, nS_um, nS_um]; unfold item1; rw [nS_uT, nS_um, nS_um, nS_um]
  have eg : gos (itemS S b l) = gos S := by unfold itemS comeS; rw [gos_ur, gos_um, gos_um, gos_um, gos_um, gos_um]; unfold item1; rw [gos_uT, gos_um, gos_um, gos_um]
  have ee : eds (itemS S b l) = eds S := by unfold itemS comeS; rw [eds_ur, eds_um, eds_um, eds_um, eds_um, eds_um]; unfold item1; rw [eds_uT, eds_um, eds_um, eds_um]
  have ew : wts (itemS S b l) = wts S := by unfold itemS comeS; rw [wts_ur, wts_um, wts_um, wts_um, wts_um, wts_um]; unfold item1; rw [wts_uT, wts_um, wts_um, wts_um]
  have ex : wX (itemS S b l) = wX S := by unfold itemS comeS; rw [wX_ur, wX_um, wX_um, wX_um, wX_um, wX_um]; unfold item1; rw [wX_uT, wX_um, wX_um, wX_um]
  unfold usC usS
  rw [eT, eB, eN, eg, ee, ew, ex, c1, c2]
  exact ⟨by omega, by omega⟩
