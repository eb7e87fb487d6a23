/-! CALLS OF THE REFERENCE: clean -/
def markL (S : St) : List Nat → St
  | [] => S
  | i :: t => markL (um S 13 i 2) t
theorem ur_ur (S : St) (b : Nat) (x y : List Nat) : ur (ur S b x) b y = ur S b y := by
  have : va_up (va_up (rr S) b x) b y = va_up (rr S) b y := by
    funext c; unfold va_up
    by_cases h : c = b <;> simp [h]
  unfold ur
  show (mm S, va_up (va_up (rr S) b x) b y, _) = _
  rw [this]; rfl
theorem ur_self (S : St) (b : Nat) : ur S b (rr S b) = S := by
  have : va_up (rr S) b (rr S b) = rr S := by
    funext c; unfold va_up
    by_cases h : c = b
    · subst h; simp
    · simp [h]
  unfold ur
  rw [this]; rfl
theorem um_ur (S : St) (b : Nat) (x : List Nat) (k i : Nat) (v : Int32) : um (ur S b x) k i v = ur (um S k i v) b x := rfl
theorem markL_ur : ∀ (l : List Nat) (S : St) (b : Nat) (x : List Nat), markL (ur S b x) l = ur (markL S l) b x
  | [], _, _, _ => rfl
  | i :: t, S, b, x => by
    unfold markL
    rw [um_ur]
    exact markL_ur t _ b x
theorem cleanN_eq : ∀ (l : List Nat) (S : St) (b : Nat), rr S b = l → cleanN S b l.length = ur (markL S l) b []
  | [], S, b, h => by
    show S = ur S b []
    rw [← h, ur_self]
  | i :: t, S, b, h => by
    have e : cleanN S b (t.length + 1) = cleanN (um (ur S b ((rr S b).eraseIdx 0)) 13 i 2) b t.length := by
      conv => lhs; unfold cleanN
      rw [h]
    show cleanN S b (t.length + 1) = _
    rw [e, cleanN_eq t _ b (by rw [rr_um, rr_ur, if_pos rfl, h]; rfl), um_ur, markL_ur, ur_ur]
    rfl
theorem rr_markL : ∀ (l : List Nat) (S : St), rr (markL S l) = rr S
  | [], _ => rfl
  | i :: t, S => by unfold markL; rw [rr_markL t]; rfl
theorem RM_clr {S : St} {w : Wd} {m : Nat} {A : Nat → Nat} (h : RM S w m A) {b : Nat} (hb : b < 8) : RM (ur S b []) (sI w (A 10) b 0) m A := by
  obtain ⟨h1, ⟨a1, a2, a3⟩, ⟨b1, b2, b3, b4, b5, b6⟩, h4, h5, h6, h7, h8⟩ := h
  have ns : ∀ s, wI (sI w (A 10) b 0) m s = wI w m s := fun s => by
    rw [pI_I, if_neg (fun z => isM_ne h1 (k := 10) (by decide) z.1.symm)]
  have no : ∀ j, 0 < mKd j → j ≠ 10 → ∀ s, wI (sI w (A 10) b 0) (A j) s = wI w (A j) s := fun j hj n1 s => by
    rw [pI_I, if_neg (fun z => isM_nn h1 hj (by decide) n1 z.1)]
  refine ⟨isM_st h1 _ _ _, ⟨?_, ?_, ?_⟩, ⟨?_, ?_, ?_, ?_, ?_, ?_⟩, fun j hj s hs => ?_, fun c hc => ⟨?_, fun j x hx => ?_⟩, h6, h7, fun j x hx => ?_⟩
  · rw [ns]; exact a1
  · rw [ns]; exact a2
  · rw [ns]; exact a3
  · rw [ns]; exact b1
  · rw [ns]; exact b2
  · rw [ns]; exact b3
  · rw [ns]; exact b4
  · rw [ns]; exact b5
  · rw [ns]; exact b6
  · obtain ⟨k1, k2, k3, -⟩ := isInt_kd hj
    rw [no j k1 k2]; exact h4 j hj s hs
  · rw [pI_I, rr_ur]
    by_cases hcb : c = b
    · rw [if_pos ⟨rfl, hcb⟩, if_pos hcb]; rfl
    · rw [if_neg (fun z => hcb z.2), if_neg hcb]
      exact (h5 c hc).1
  · rw [no 11 (by decide) (by decide)]
    rw [rr_ur] at hx
    by_cases hcb : c = b
    · rw [if_pos hcb] at hx
      simp at hx
    · rw [if_neg hcb] at hx
      exact (h5 c hc).2 j x hx
  · rw [no 31 (by decide) (by decide)]; exact h8 j x hx
section MO
variable {e0 mi m : Nat} {A : Nat → Nat}
theorem M_clean {b N : Nat} {l : List Nat} {w0 : Wd} {Q : Int32 → Wd → Prop} (hl : l.length = N) (hN : N ≤ 60) (hb : b < 8) (h61 : ∀ i ∈ l, i < 61) : ∀ (n k : Nat) (T : St) (w : Wd), k + n = N → rr T b = l → RM T w m A → FM m A w0 w → (∀ w', RM (ur (markL T (l.drop k)) b []) w' m A → FM m A w0 w' → Q (nI N) w') → wb_Mo_clean_60 e0 mi Q (n + 1) m (nI b) (nI N) (nI k) w
  | 0, k, T, w, hk, hr, R, F, hQ => by
    have : k = N := by omega
    subst this
    unfold wb_Mo_clean_60
    have cb : (nI b).toNatClampNeg = b := nI_clamp (by omega)
    rw [List.drop_of_length_le (by omega)] at hQ
    refine ⟨fun _ => ⟨R.1.1, ldA R.1 10 (n := 8) rfl (by decide) rfl rfl hb ?_⟩, fun z => absurd (nI_le (Nat.le_refl _) (by omega)) z⟩
    rw [cb]
    exact hQ _ (RM_clr R hb) (F.ar (by decide) (isM_ne R.1 (by decide)) b 0)
  | n + 1, k, T, w, hk, hr, R, F, hQ => by
    have hkl : k < l.length := by omega
    have hj : l[k]? = some l[k] := List.getElem?_eq_getElem hkl
    have hd : l.drop k = l[k] :: l.drop (k + 1) := List.drop_eq_getElem_cons hkl
    rw [hd] at hQ
    have i61 := h61 _ (List.mem_of_getElem? hj)
    have v11 := (R.2.2.2.2.1 b hb).2 k l[k] (by rw [hr]; exact hj)
    generalize l[k] = i at hQ i61 v11
    have ci : (nI i).toNatClampNeg = i := nI_clamp (by omega)
    unfold wb_Mo_clean_60
    rw [i60', nI_add]
    have ck : (nI (60 * b + k)).toNatClampNeg = 60 * b + k := nI_clamp (by omega)
    refine ⟨fun z => absurd z (nI_ge (by omega) (by omega)), fun _ => ⟨R.1.1, ldA R.1 11 (n := 480) rfl (by decide) rfl rfl (by omega) ?_⟩⟩
    rw [ck, v11, ci]
    refine ldA R.1 13 (n := 61) rfl (by decide) rfl rfl i61 (fun i13 e13 => ?_)
    rw [e13, nI_1]
    exact M_clean hl hN hb h61 n (k + 1) (um T 13 i 2) _ (by omega) (by rw [rr_um]; exact hr) (RM_um R (by unfold isInt; decide) 2) (F.ar (by decide) (isM_ne R.1 (by decide)) i 2) hQ
variable {S : St} {w : Wd}
theorem N_clean {x1 : Int32} {Q : Int32 → Wd → Prop} (h : RM S w m A) (hS : okS S) (h1 : ¬ (∃ b, b < nB S ∧ x1 = nI b) → ∀ w', PM m A S 1 w w' → Q 0 w') (h2 : ∀ b, b < nB S → x1 = nI b → ¬ mm S 6 b = 0 → ∀ w', PM m A S 2 w w' → Q 0 w')
    (h0 : ∀ b, b < nB S → x1 = nI b → mm S 6 b = 0 → ∀ w', PM m A (cleanN S b (rr S b).length) 0 w w' → Q (nI (rr S b).length) w') : wp_Mo_clean e0 mi m x1 w Q := by
  have hm := h.1.1
  have hb8 := hS.1.1
  have hT := hS.1.2.1
  unfold wp_Mo_clean
  refine ⟨hm, M_isBelt h hS (fun z => ⟨fun y => absurd rfl y, fun _ => ?_⟩) (fun b hb hx => ⟨fun _ => ?_, fun y => absurd y (by decide)⟩)⟩
  · unfold wb_Mo_clean_14 wb_Mo_clean_42
    exact ⟨m, rfl, hm, hm, fun _ => ⟨hm, fun y => absurd y (cd_1 w m), fun _ => h1 z _ (PM_code h FX.rfl 1)⟩, fun y => absurd y (cd_1e w m)⟩
  · have p0 := PM_code h FX.rfl 0
    have b8 : b < 8 := by omega
    have cb : (nI b).toNatClampNeg = b := nI_clamp (by omega)
    unfold wb_Mo_clean_14
    refine ⟨m, rfl, hm, hm, fun y => absurd (cd_e w m 0) y, fun _ => ?_⟩
    generalize sI w m 0 0 = u at p0 ⊢
    rw [hx, cb]
    refine ldA p0.1.1 6 (n := 8) rfl (by decide) rfl rfl b8 ?_
    rw [p0.1.2.2.2.1 6 (by unfold isInt; decide) b b8]
    unfold wb_Mo_clean_39 wb_Mo_clean_42
    refine ⟨fun z => ⟨m, rfl, p0.1.1.1, p0.1.1.1, fun _ => ?_, fun y => absurd (by rw [cd_e]; decide) y⟩, fun z => ⟨m, rfl, p0.1.1.1, p0.1.1.1, fun y => absurd y (by rw [cd_e]; decide), fun _ => h2 b hb hx z _ (PM_code p0.1 p0.2.1 2)⟩⟩
    have p1 := PM_code p0.1 p0.2.1 0
    generalize sI u m 0 0 = u1 at p1 ⊢
    refine ldA p1.1.1 10 (n := 8) rfl (by decide) rfl rfl b8 (fun i6 e6 => ⟨(rr S b).length + 1, ?_⟩)
    rw [e6, cb, (p1.1.2.2.2.2.1 b b8).1]
    refine M_clean (l := rr S b) (w0 := u1) rfl (okS_R hS b b8).1 b8 (fun i hi => by have := (hS.2.2.1 b i hi).2.1; omega) (rr S b).length 0 S u1 (by omega) rfl p1.1 FM.rfl (fun w' R' F' => h0 b hb hx z w' (PM_fm p1 F' ?_))
    rw [cleanN_eq (rr S b) S b rfl]
    exact R'
end MO
