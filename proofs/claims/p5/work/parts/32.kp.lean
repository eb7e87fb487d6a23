/-! the same reads, as rows that simp takes by their equations -/
theorem qI_R (w : Wd) (a k : Nat) (v : Option Nat) : wI (sR w a k v) = wI w := (rfl)
theorem qI_J (w : Wd) (a k : Nat) (v : Int64) : wI (sJ w a k v) = wI w := (rfl)
theorem qR_I (w : Wd) (a k : Nat) (v : Int32) : wR (sI w a k v) = wR w := (rfl)
theorem qR_J (w : Wd) (a k : Nat) (v : Int64) : wR (sJ w a k v) = wR w := (rfl)
theorem qJ_I (w : Wd) (a k : Nat) (v : Int32) : wJ (sI w a k v) = wJ w := (rfl)
theorem qJ_R (w : Wd) (a k : Nat) (v : Option Nat) : wJ (sR w a k v) = wJ w := (rfl)
/-! WHAT IS KEPT: all old cells but those of X -/
def Kp (X : Nat → Prop) (w w' : Wd) : Prop := ∀ b, b ∈ wL w → b ∈ wL w' ∧ wK w' b = wK w b ∧ wN w' b = wN w b ∧ (¬ X b → wI w' b = wI w b ∧ wR w' b = wR w b ∧ wJ w' b = wJ w b)
theorem Kp.rfl {X : Nat → Prop} {w : Wd} : Kp X w w := fun _ h => ⟨h, Eq.refl _, Eq.refl _, fun _ => ⟨Eq.refl _, Eq.refl _, Eq.refl _⟩⟩
theorem Kp.trans {X : Nat → Prop} {w1 w2 w3 : Wd} (h1 : Kp X w1 w2) (h2 : Kp X w2 w3) : Kp X w1 w3 := fun b hb => by
  obtain ⟨a1, a2, a3, a4⟩ := h1 b hb
  obtain ⟨b1, b2, b3, b4⟩ := h2 b a1
  refine ⟨b1, b2.trans a2, b3.trans a3, fun hk => ?_⟩
  obtain ⟨c1, c2, c3⟩ := a4 hk
  obtain ⟨d1, d2, d3⟩ := b4 hk
  exact ⟨d1.trans c1, d2.trans c2, d3.trans c3⟩
theorem Kp.mono {X Y : Nat → Prop} {w w' : Wd} (h : Kp X w w') (hXY : ∀ b, b ∈ wL w → X b → Y b) : Kp Y w w' := fun b hb => ⟨(h b hb).1, (h b hb).2.1, (h b hb).2.2.1, fun hy => (h b hb).2.2.2 (fun hx => hy (hXY b hb hx))⟩
theorem Kp.sI {X : Nat → Prop} {w w' : Wd} (h : Kp X w w') {a k : Nat} {v : Int32} (ha : a ∈ wL w → X a) : Kp X w (sI w' a k v) := fun b hb => by
  obtain ⟨a1, a2, a3, a4⟩ := h b hb
  refine ⟨a1, a2, a3, fun hk => ?_⟩
  obtain ⟨c1, c2, c3⟩ := a4 hk
  refine ⟨?_, c2, c3⟩
  have hba : b ≠ a := fun z => hk (z ▸ ha (z ▸ hb))
  rw [← c1]; funext j; rw [pI_I, if_neg (fun z => hba z.1)]
theorem Kp.sJ {X : Nat → Prop} {w w' : Wd} (h : Kp X w w') {a k : Nat} {v : Int64} (ha : a ∈ wL w → X a) : Kp X w (sJ w' a k v) := fun b hb => by
  obtain ⟨a1, a2, a3, a4⟩ := h b hb
  refine ⟨a1, a2, a3, fun hk => ?_⟩
  obtain ⟨c1, c2, c3⟩ := a4 hk
  refine ⟨c1, c2, ?_⟩
  have hba : b ≠ a := fun z => hk (z ▸ ha (z ▸ hb))
  rw [← c3]; funext j; rw [pJ_J, if_neg (fun z => hba z.1)]
theorem Kp.sR {X : Nat → Prop} {w w' : Wd} (h : Kp X w w') {a k : Nat} {v : Option Nat} (ha : a ∈ wL w → X a) : Kp X w (sR w' a k v) := fun b hb => by
  obtain ⟨a1, a2, a3, a4⟩ := h b hb
  refine ⟨a1, a2, a3, fun hk => ?_⟩
  obtain ⟨c1, c2, c3⟩ := a4 hk
  refine ⟨c1, ?_, c3⟩
  have hba : b ≠ a := fun z => hk (z ▸ ha (z ▸ hb))
  rw [← c2]; funext j; rw [pR_R, if_neg (fun z => hba z.1)]
theorem Kp.sRow {X : Nat → Prop} {w w' : Wd} (h : Kp X w w') {a : Nat} {f : Nat → Option Nat} (ha : a ∈ wL w → X a) : Kp X w (sRow w' a f) := fun b hb => by
  obtain ⟨a1, a2, a3, a4⟩ := h b hb
  refine ⟨a1, a2, a3, fun hk => ?_⟩
  obtain ⟨c1, c2, c3⟩ := a4 hk
  refine ⟨c1, ?_, c3⟩
  have hba : b ≠ a := fun z => hk (z ▸ ha (z ▸ hb))
  rw [← c2]; funext j; rw [pR_row, if_neg hba]
theorem Kp.new {X : Nat → Prop} {w w' : Wd} (h : Kp X w w') {q kd n : Nat} (hq : q ∉ wL w') : Kp X w (bw_new w' q kd n) := fun b hb => by
  obtain ⟨a1, a2, a3, a4⟩ := h b hb
  have hbq : b ≠ q := fun z => hq (z ▸ a1)
  refine ⟨List.mem_append_left _ a1, ?_, ?_, fun hk => ?_⟩
  · rw [pK_N, if_neg hbq]; exact a2
  · rw [pN_N, if_neg hbq]; exact a3
  · obtain ⟨c1, c2, c3⟩ := a4 hk
    refine ⟨?_, ?_, ?_⟩
    · rw [← c1]; funext j; rw [pI_N, if_neg hbq]
    · rw [← c2]; funext j; rw [pR_N, if_neg hbq]
    · rw [← c3]; funext j; rw [pJ_N, if_neg hbq]
theorem Kp.is {X : Nat → Prop} {w w' : Wd} (h : Kp X w w') {a ci : Nat} (ha : bw_is w a ci) : bw_is w' a ci := ⟨(h a ha.1).1, (h a ha.1).2.1.trans ha.2⟩
theorem Kp.I {X : Nat → Prop} {w w' : Wd} (h : Kp X w w') {a : Nat} (ha : a ∈ wL w) (hx : ¬ X a) : wI w' a = wI w a := ((h a ha).2.2.2 hx).1
theorem Kp.R {X : Nat → Prop} {w w' : Wd} (h : Kp X w w') {a : Nat} (ha : a ∈ wL w) (hx : ¬ X a) : wR w' a = wR w a := ((h a ha).2.2.2 hx).2.1
theorem Kp.J {X : Nat → Prop} {w w' : Wd} (h : Kp X w w') {a : Nat} (ha : a ∈ wL w) (hx : ¬ X a) : wJ w' a = wJ w a := ((h a ha).2.2.2 hx).2.2
theorem Kp.N {X : Nat → Prop} {w w' : Wd} (h : Kp X w w') {a : Nat} (ha : a ∈ wL w) : wN w' a = wN w a := (h a ha).2.2.1
theorem Kp.K {X : Nat → Prop} {w w' : Wd} (h : Kp X w w') {a : Nat} (ha : a ∈ wL w) : wK w' a = wK w a := (h a ha).2.1
theorem Kp.L {X : Nat → Prop} {w w' : Wd} (h : Kp X w w') {a : Nat} (ha : a ∈ wL w) : a ∈ wL w' := (h a ha).1
theorem Kp.frC {X : Nat → Prop} {w w' : Wd} (h : Kp X w w') (hX : ∀ b, b ∈ wL w → X b → ¬ kM (wK w b)) : FrC w w' := fun b hb => ⟨(h b hb).1, (h b hb).2.1, (h b hb).2.2.1, fun hk => (h b hb).2.2.2 (fun hx => hX b hb hx hk)⟩
/-- two addresses of other kinds are others -/
theorem is_ne {w : Wd} {a b ca cb : Nat} (ha : bw_is w a ca) (hb : bw_is w b cb) (h : ca ≠ cb) : a ≠ b := fun z => h (by rw [← ha.2, ← hb.2, z])
/-- a new belt x with its two ways y and z -/
def newB (w : Wd) (x y z : Nat) (no ln sp : Int32) : Prop := bw_is w x 0 ∧ wI w x 0 = no ∧ wI w x 1 = ln ∧ wI w x 2 = sp ∧ wI w x 3 = 1 ∧ wR w x 4 = none ∧ wR w x 5 = none ∧ wI w x 6 = 0 ∧ wR w x 7 = some y ∧ wR w x 8 = some z ∧
  bw_is w y 4 ∧ wR w y 0 = none ∧ wI w y 1 = 1 ∧ wI w y 2 = 0 ∧ bw_is w z 4 ∧ wR w z 0 = none ∧ wI w z 1 = 1 ∧ wI w z 2 = 0
theorem Bt_init_ok {e0 mi x nc ns : Nat} {no ln sp : Int32} {w : Wd} {Q : Wd → Prop} (hx : bw_is w x 0) (hc : 2 ≤ nc) (hs : 6 ≤ ns)
    (h : ∀ w' y z, y ∉ wL w → z ∉ wL w → y ≠ z → newB w' x y z no ln sp → Kp (fun b => b = x) w w' → Q w') : wp_Bt_init e0 mi x no ln sp w nc ns Q := by
  unfold wp_Bt_init
  refine ⟨hx, by omega, by omega, fun y hy w6 e6 => ?_⟩
  unfold wp_Wy_init
  have hxy : x ≠ y := fun z => hy (z ▸ hx.1)
  have a1 : bw_is w6 x 0 := by rw [e6]; exact bw_is_new (n := 0) hy hx
  have a2 : bw_is w6 y 4 := by rw [e6]; exact bw_is_self _ y 4 0
  have K1 : Kp (fun b => b = x) w w6 := by
    rw [e6]
    exact ((((((((Kp.rfl (X := fun b => b = x)).sI (fun _ => rfl)).sI (fun _ => rfl)).sI (fun _ => rfl)).sI (fun _ => rfl)).sR (fun _ => rfl)).sR (fun _ => rfl)).sI (fun _ => rfl)).new hy
  refine ⟨a2, a1, by omega, by omega, fun z hz w20 e20 => ?_⟩
  have hyz : y ≠ z := fun q => hz (q ▸ a2.1)
  have hxz : x ≠ z := fun q => hz (q ▸ a1.1)
  have b1 : bw_is w20 x 0 := by rw [e20]; exact bw_is_new (n := 0) hz a1
  have b2 : bw_is w20 y 4 := by rw [e20]; exact bw_is_new (n := 0) hz a2
  have b3 : bw_is w20 z 4 := by rw [e20]; exact bw_is_self _ z 4 0
  have K2 : Kp (fun b => b = x) w w20 := by
    rw [e20]
    exact ((((K1.sR (fun q => absurd q hy)).sI (fun q => absurd q hy)).sI (fun q => absurd q hy)).sR (fun _ => rfl)).new hz
  have hz' : z ∉ wL w := fun q => hz (K1.L q)
  refine ⟨b3, b1, h _ y z hy hz' hyz ?_ ((((K2.sR (fun q => absurd q hz')).sI (fun q => absurd q hz')).sI (fun q => absurd q hz')).sR (fun _ => rfl))⟩
  subst e20 e6
  refine ⟨b1, ?_, ?_, ?_, ?_, ?_, ?_, ?_, ?_, ?_, b2, ?_, ?_, ?_, b3, ?_, ?_, ?_⟩ <;> simp [qI_R, pI_I, pI_N, pR_R, qR_I, pR_N, hxy, hxz, hyz, hxy.symm, hxz.symm]
/-! THE LAW'S ROW OF ONE LONG -/
def isRes (w : Wd) (r : Nat) : Prop := bw_is w r 102 ∧ wN w r = 1
theorem isRes_C {w w' : Wd} {r : Nat} (h : isRes w r) (hf : FrC w w') : isRes w' r := ⟨⟨(hf r h.1.1).1, (hf r h.1.1).2.1.trans h.1.2⟩, (hf r h.1.1).2.2.1.trans h.2⟩
theorem r_put {w : Wd} {r : Nat} {v : Int64} {Q : Int32 → Wd → Prop} (h : isRes w r) (hQ : Q 0 (sJ w r 0 v)) : ∃ a10 : Nat, some r = some a10 ∧ (bw_is w a10 102 ∧ (vp_in (0 : Int32) (wN w a10) ∧ (Q (0 : Int32) (sJ w a10 (0 : Int32).toNatClampNeg v)))) :=
  ⟨r, rfl, h.1, by rw [h.2]; exact vp_in_nI (n := 0) (by decide) (by decide), hQ⟩
