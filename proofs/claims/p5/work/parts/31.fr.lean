/-! FRAMES: a call of the class leaves the cells of the reference and of the law as they are -/
def kM (k : Nat) : Prop := k = 6 ∨ 101 ≤ k
def FrC (w w' : Wd) : Prop := ∀ b, b ∈ wL w → b ∈ wL w' ∧ wK w' b = wK w b ∧ wN w' b = wN w b ∧ (kM (wK w b) → wI w' b = wI w b ∧ wR w' b = wR w b ∧ wJ w' b = wJ w b)
theorem FrC.rfl {w : Wd} : FrC w w := fun _ h => ⟨h, Eq.refl _, Eq.refl _, fun _ => ⟨Eq.refl _, Eq.refl _, Eq.refl _⟩⟩
theorem FrC.trans {w1 w2 w3 : Wd} (h1 : FrC w1 w2) (h2 : FrC w2 w3) : FrC w1 w3 := fun b hb => by
  obtain ⟨a1, a2, a3, a4⟩ := h1 b hb
  obtain ⟨b1, b2, b3, b4⟩ := h2 b a1
  refine ⟨b1, b2.trans a2, b3.trans a3, fun hk => ?_⟩
  obtain ⟨c1, c2, c3⟩ := a4 hk
  obtain ⟨d1, d2, d3⟩ := b4 (by rw [a2]; exact hk)
  exact ⟨d1.trans c1, d2.trans c2, d3.trans c3⟩
theorem FrC.sI {w w' : Wd} (h : FrC w w') {a k ci : Nat} {v : Int32} (ha : bw_is w' a ci) (hc : ¬ kM ci) : FrC w (sI w' a k v) := fun b hb => by
  obtain ⟨a1, a2, a3, a4⟩ := h b hb
  refine ⟨a1, a2, a3, fun hk => ?_⟩
  obtain ⟨c1, c2, c3⟩ := a4 hk
  refine ⟨?_, c2, c3⟩
  have hba : b ≠ a := fun z => hc (by rw [← ha.2, ← z, a2]; exact hk)
  rw [← c1]; funext j; rw [pI_I, if_neg (fun z => hba z.1)]
theorem FrC.sR {w w' : Wd} (h : FrC w w') {a k ci : Nat} {v : Option Nat} (ha : bw_is w' a ci) (hc : ¬ kM ci) : FrC w (sR w' a k v) := fun b hb => by
  obtain ⟨a1, a2, a3, a4⟩ := h b hb
  refine ⟨a1, a2, a3, fun hk => ?_⟩
  obtain ⟨c1, c2, c3⟩ := a4 hk
  refine ⟨c1, ?_, c3⟩
  have hba : b ≠ a := fun z => hc (by rw [← ha.2, ← z, a2]; exact hk)
  rw [← c2]; funext j; rw [pR_R, if_neg (fun z => hba z.1)]
theorem FrC.sRow {w w' : Wd} (h : FrC w w') {a ci : Nat} {f : Nat → Option Nat} (ha : bw_is w' a ci) (hc : ¬ kM ci) : FrC w (sRow w' a f) := fun b hb => by
  obtain ⟨a1, a2, a3, a4⟩ := h b hb
  refine ⟨a1, a2, a3, fun hk => ?_⟩
  obtain ⟨c1, c2, c3⟩ := a4 hk
  refine ⟨c1, ?_, c3⟩
  have hba : b ≠ a := fun z => hc (by rw [← ha.2, ← z, a2]; exact hk)
  rw [← c2]; funext j; rw [pR_row, if_neg hba]
theorem FrC.new {w w' : Wd} (h : FrC w w') {q kd n : Nat} (hq : q ∉ wL w') : FrC w (bw_new w' q kd n) := fun b hb => by
  obtain ⟨a1, a2, a3, a4⟩ := h b hb
  have hbq : b ≠ q := fun z => hq (z ▸ a1)
  refine ⟨List.mem_append_left _ a1, ?_, ?_, fun hk => ?_⟩
  · rw [pK_N, if_neg hbq]; exact a2
  · rw [pN_N, if_neg hbq]; exact a3
  · obtain ⟨c1, c2, c3⟩ := a4 hk
    refine ⟨?_, ?_, ?_⟩
    · rw [← c1]; funext j; rw [pI_N, if_neg hbq]
    · rw [← c2]; funext j; rw [pR_N, if_neg hbq]
    · rw [← c3]; funext j; rw [pJ_N, if_neg hbq]
/-- what the reference is, is so behind a call of the class -/
theorem isM_C {w w' : Wd} {m : Nat} {A : Nat → Nat} (h : isM w m A) (hf : FrC w w') : isM w' m A := by
  obtain ⟨h1, h2, h3⟩ := h
  obtain ⟨a1, a2, a3, a4⟩ := hf m h1.1
  obtain ⟨c1, c2, c3⟩ := a4 (Or.inl h1.2)
  refine ⟨⟨a1, a2.trans h1.2⟩, fun k hk => ?_, h3⟩
  obtain ⟨b1, b2, b3⟩ := h2 k hk
  obtain ⟨d1, d2, d3, d4⟩ := hf _ b2.1
  exact ⟨by rw [c2]; exact b1, ⟨d1, d2.trans b2.2⟩, d3.trans b3⟩
/-! THE CLASS ON EMPTY LISTS -/
def eC (w : Wd) (q : Nat) (B : Nat → Nat) : Prop := bw_is w q 5 ∧ ∀ k, k < 6 → wR w q k = some (B k) ∧ bw_is w (B k) 7 ∧ wI w (B k) 2 = 0
theorem eC_of {e0 : Nat} {w0 w : Wd} {q : Nat} {B : Nat → Nat} (h : isC e0 w0 w q B) : eC w q B := ⟨h.1, fun k hk => ⟨(h.2.2.2.2.1 k hk).1, (h.2.2.2.2.1 k hk).2.1, (h.2.2.2.2.1 k hk).2.2.1⟩⟩
theorem eC_sI {w : Wd} {q : Nat} {B : Nat → Nat} (h : eC w q B) (k : Nat) (v : Int32) : eC (sI w q k v) q B := by
  refine ⟨h.1, fun j hj => ⟨(h.2 j hj).1, (h.2 j hj).2.1, ?_⟩⟩
  have hn : B j ≠ q := fun z => by
    have e1 := (h.2 j hj).2.1.2
    rw [z, h.1.2] at e1
    exact absurd e1 (by decide)
  rw [pI_I, if_neg (fun z => hn z.1)]
  exact (h.2 j hj).2.2
/-- the size of one of the lists -/
theorem e_size {e0 mi q k : Nat} {w : Wd} {B : Nat → Nat} {Q : Int32 → Wd → Prop} (h : eC w q B) (hk : k < 6) (hQ : Q 0 w) : ∃ a : Nat, (wR w q k) = some a ∧ (bw_is w a 7 ∧ wp_Al_size e0 mi a w Q) := by
  obtain ⟨h1, h2, h3⟩ := h.2 k hk
  refine ⟨B k, h1, h2, ?_⟩
  unfold wp_Al_size
  refine ⟨h2, ?_⟩
  rw [h3]; exact hQ
theorem i32_nlt (x : Int32) (h : ¬ x < 0) : ¬ x < 0 := h
theorem e_fb {e0 mi q nc ns : Nat} {x1 : Int32} {w : Wd} {B : Nat → Nat} {Q : Option Nat → Wd → Prop} {X : String → Wd → Prop} (h : eC w q B) (hc : 1 ≤ nc) (hs : 6 ≤ ns) (hX : X "java/util/NoSuchElementException" w) : wp_Br_findBelt e0 mi q x1 w nc ns Q X := by
  unfold wp_Br_findBelt wb_Br_findBelt_15
  exact ⟨fun _ => ⟨hc, hs, hX⟩, fun h1 => ⟨h.1, e_size h (by decide) ⟨fun z => absurd z h1, fun _ => ⟨hc, hs, hX⟩⟩⟩⟩
theorem e_fi {e0 mi q nc ns : Nat} {x1 : Int32} {w : Wd} {B : Nat → Nat} {Q : Option Nat → Wd → Prop} {X : String → Wd → Prop} (h : eC w q B) (hc : 1 ≤ nc) (hs : 6 ≤ ns) (hX : X "java/util/NoSuchElementException" w) : wp_Br_findItem e0 mi q x1 w nc ns Q X := by
  unfold wp_Br_findItem wb_Br_findItem_16
  refine ⟨fun _ => ⟨hc, hs, hX⟩, fun h1 => ⟨h.1, e_size h (by decide) ⟨fun z => ?_, fun _ => ⟨hc, hs, hX⟩⟩⟩⟩
  exfalso
  rw [Int32.lt_iff_toInt_lt] at h1
  rw [Int32.le_iff_toInt_le] at z
  have e1 : (1 : Int32).toInt = 1 := by decide
  have e2 : (0 : Int32).toInt = 0 := by decide
  omega
theorem e_pass {e0 mi q nc ns : Nat} {w : Wd} {B : Nat → Nat} {Q : Wd → Prop} (h : eC w q B) (hQ : Q (sI w q 7 (wI w q 7 + 1))) : wp_Br_passSecond e0 mi q w nc ns Q := by
  have h' := eC_sI h 7 (wI w q 7 + 1)
  unfold wp_Br_passSecond wp_Br_tellReads
  refine ⟨h.1, 0, 0, Nat.zero_le _, Nat.zero_le _, h'.1, e_size h' (by decide) ⟨1, ?_⟩⟩
  unfold wb_Br_tellReads_12
  refine ⟨fun _ i2 e2 => ⟨1, ?_⟩, fun z => absurd (by decide) z⟩
  unfold wb_Br_tellReads_75
  subst e2
  refine ⟨fun _ => ⟨h'.1, e_size h' (by decide) (fun i3 e3 => ⟨1, ?_⟩)⟩, fun z => absurd (by decide) z⟩
  unfold wb_Br_passSecond_24
  subst e3
  refine ⟨fun _ => ⟨1, ?_⟩, fun z => absurd (by decide) z⟩
  unfold wb_Br_passSecond_65
  exact ⟨h'.1, e_size h' (by decide) ⟨fun _ => hQ, fun z => absurd (by decide) z⟩⟩
theorem e_stepl {e0 mi q : Nat} {B : Nat → Nat} {w0 : Wd} {Q : Int32 → Wd → Prop} {X : String → Wd → Prop} (hQ : ∀ w', FrC w0 w' → Q 0 w') : ∀ (n j k nc ns : Nat) (w : Wd), j + n = k → k < 2 ^ 31 → eC w q B → FrC w0 w → wb_Br_step_17 e0 mi Q X (n + 1) q (nI k) 0 (nI j) w nc ns
  | 0, j, k, nc, ns, w, hjk, hk, h, hf => by
    unfold wb_Br_step_17
    exact ⟨fun _ => ⟨h.1, e_size h (by decide) (hQ w hf)⟩, fun z => absurd (nI_le (by omega) (by omega)) z⟩
  | n + 1, j, k, nc, ns, w, hjk, hk, h, hf => by
    unfold wb_Br_step_17
    refine ⟨fun z => absurd z (nI_ge (by omega) hk), fun _ => ⟨h.1, 0, 0, Nat.zero_le _, Nat.zero_le _, e_pass h (fun i20 e20 => ?_)⟩⟩
    rw [e20, nI_1]
    exact e_stepl hQ n (j + 1) k _ _ _ (by omega) hk (eC_sI h _ _) (hf.sI h.1 (by unfold kM; omega))
