/-! THE REFERENCE: a belt's items move -/
theorem um_um (S : St) (k i : Nat) (a b : Int32) : um (um S k i a) k i b = um S k i b := by
  have e : va_up (mm (um S k i a)) k (va_up (mm (um S k i a) k) i b) = va_up (mm S) k (va_up (mm S k) i b) := by
    funext x y
    unfold va_up
    by_cases hx : x = k
    · subst hx
      rw [if_pos rfl, if_pos rfl]
      by_cases hy : y = i
      · rw [if_pos hy, if_pos hy]
      · rw [if_neg hy, if_neg hy, mm_um, if_neg (fun z => hy z.2)]
    · rw [if_neg hx, if_neg hx]
      rw [mm_um, if_neg (fun z => hx z.1)]
  show (va_up (mm (um S k i a)) k (va_up (mm (um S k i a) k) i b), _) = (va_up (mm S) k (va_up (mm S k) i b), _)
  rw [e]
  rfl
theorem pk_0 (t : Int32) (i s : Nat) : pk (t, 0, i, s) = ((t.toInt64 <<< ((32 : Int32).toInt64 &&& 63)) ||| ((nI i).toInt64 <<< ((8 : Int32).toInt64 &&& 63))) ||| (nI s).toInt64 := by
  unfold pk
  show ((_ ||| ((nI 0).toInt64 <<< ((24 : Int32).toInt64 &&& 63))) ||| _) ||| _ = _
  rw [show (nI 0).toInt64 <<< ((24 : Int32).toInt64 &&& 63) = 0 by decide, Int64.or_zero]
section MO
variable {e0 mi m : Nat} {A : Nat → Nat}
theorem M_scan {S : St} {b i N : Nat} {x2 x4 to : Int32} {K2 : Nat → Int32 → Int32 → Wd → Prop} {Q : Wd → Prop} {w0 : Wd} (hb : b < 8) (hi : i < 61) (hn4 : nS S ≤ 4) (hwt : (wts S ++ rdsS S b i (mm S 15 i) to (nS S)).length < 3000)
    (hQ : ∀ w', RM (um (uw S (wts S ++ rdsS S b i (mm S 15 i) to (nS S)) N) 15 i to) w' m A → FM m A w0 w' → ∀ i6 : Int32, i6 = x2 + 1 → K2 m (nI b) i6 w') :
    ∀ (n s : Nat) (w : Wd), s + n = nS S → RM (uw S (wts S ++ rdsS S b i (mm S 15 i) to s) N) w m A → FM m A w0 w → wb_Mo_move_194 e0 mi K2 Q (n + 1) m (nI b) x2 (nI i) x4 to (nI s) w := by
  have ci : (nI i).toNatClampNeg = i := nI_clamp (by omega)
  have mono : ∀ (d s : Nat), (rdsS S b i (mm S 15 i) to s).length ≤ (rdsS S b i (mm S 15 i) to (s + d)).length := fun d => by
    induction d with
    | zero => intro s; exact Nat.le_refl _
    | succ d ih =>
      intro s
      refine Nat.le_trans (ih s) ?_
      rw [← Nat.add_assoc]
      conv => rhs; unfold rdsS
      simp
  intro n
  induction n with
  | zero =>
    intro s w hs R F
    have hss : s = nS S := by omega
    subst hss
    unfold wb_Mo_move_194
    have l21 : wI w m 21 = nI (nS S) := R.2.2.1.2.2.1
    rw [l21]
    refine ⟨R.1.1, fun _ => ldA R.1 15 (n := 61) rfl (by decide) rfl rfl hi ?_, fun z => absurd (nI_le (Nat.le_refl _) (by omega)) z⟩
    rw [ci]
    exact hQ _ (RM_um R (by unfold isInt; decide) to) (F.ar (by decide) (isM_ne R.1 (by decide)) _ _)
  | succ n ih =>
    intro s w hs R F
    have hs4 : s < 4 := by omega
    have cs : (nI s).toNatClampNeg = s := nI_clamp (by omega)
    unfold wb_Mo_move_194
    have l21 : wI w m 21 = nI (nS S) := R.2.2.1.2.2.1
    rw [l21]
    have next : ∀ (u : Wd), RM (uw S (wts S ++ rdsS S b i (mm S 15 i) to (s + 1)) N) u m A → FM m A w0 u → wb_Mo_move_290 e0 mi K2 (wb_Mo_move_194 e0 mi K2 Q (n + 1)) Q m (nI b) x2 (nI i) x4 to (nI s) u := fun u Ru Fu => by
      unfold wb_Mo_move_290
      intro i1 e1
      rw [e1, nI_1]
      exact ih (s + 1) u (by omega) Ru Fu
    have stay : ¬ (mm S 22 s = nI b ∧ mm S 15 i < mm S 23 s ∧ mm S 23 s ≤ to) → RM (uw S (wts S ++ rdsS S b i (mm S 15 i) to (s + 1)) N) w m A := fun hno => by
      have e : rdsS S b i (mm S 15 i) to (s + 1) = rdsS S b i (mm S 15 i) to s := by
        conv => lhs; unfold rdsS
        rw [if_neg hno, List.append_nil]
      rw [e]; exact R
    have v22 : wI w (A 22) s = mm S 22 s := R.2.2.2.1 22 (by unfold isInt; decide) s hs4
    have v23 : wI w (A 23) s = mm S 23 s := R.2.2.2.1 23 (by unfold isInt; decide) s hs4
    have v24 : wI w (A 24) s = mm S 24 s := R.2.2.2.1 24 (by unfold isInt; decide) s hs4
    have v15 : wI w (A 15) i = mm S 15 i := R.2.2.2.1 15 (by unfold isInt; decide) i hi
    have v1 : wI w m 1 = mm S 1 0 := R.2.1.1
    have l25 : wI w m 25 = nI (wts S ++ rdsS S b i (mm S 15 i) to s).length := R.2.2.1.2.2.2.1
    refine ⟨R.1.1, fun z => absurd z (nI_ge (by omega) (by omega)), fun _ => ldA R.1 22 (n := 4) rfl (by decide) rfl rfl hs4 ?_⟩
    rw [cs, v22]
    refine ⟨fun z => next w (stay (fun q => z q.1)) F, fun z => ldA R.1 15 (n := 61) rfl (by decide) rfl rfl hi (ldA R.1 23 (n := 4) rfl (by decide) rfl rfl hs4 ?_)⟩
    rw [ci, v15, v23]
    refine ⟨fun z2 => next w (stay (fun q => absurd q.2.1 (Int32.not_lt.mpr z2))) F, fun z2 => ⟨vA R.1 23 (n := 4) (by decide) rfl rfl hs4, fun z3 => ldA R.1 24 (n := 4) rfl (by decide) rfl rfl hs4 ?_, fun z3 => next w (stay (fun q => z3 q.2.2)) F⟩⟩
    have hyes : mm S 22 s = nI b ∧ mm S 15 i < mm S 23 s ∧ mm S 23 s ≤ to := ⟨z, Int32.not_le.mp z2, z3⟩
    have e : rdsS S b i (mm S 15 i) to (s + 1) = rdsS S b i (mm S 15 i) to s ++ [(mm S 1 0 + mm S 24 s, 0, i, s)] := by
      conv => lhs; unfold rdsS
      rw [if_pos hyes]
    have hlen : (wts S ++ rdsS S b i (mm S 15 i) to s).length < 3000 := by
      have := mono (nS S - s) s
      rw [show s + (nS S - s) = nS S by omega] at this
      simp at hwt ⊢
      omega
    refine ldA R.1 26 (n := 3000) rfl (by decide) rfl l25 hlen ?_
    rw [l25, nI_clamp (by omega), v1, v24, pI_J, l25, nI_1, ← pk_0]
    have R2 := RM_wt R (mm S 1 0 + mm S 24 s, 0, i, s) N
    refine next _ ?_ ((F.arJ (by decide) _ _).sc (by decide) _)
    rw [e, ← List.append_assoc]
    exact R2
end MO
