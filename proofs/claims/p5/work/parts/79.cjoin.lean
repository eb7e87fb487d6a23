/-! CALLS OF THE CLASS: join -/
def joinS (S : St) (k t : Nat) (sh : Int32) : St := um (um (um S 7 k (nI t)) 8 k sh) 9 k 0
theorem mm_join (S : St) (k t : Nat) (sh : Int32) {j : Nat} (h : j ≠ 7 ∧ j ≠ 8 ∧ j ≠ 9) : mm (joinS S k t sh) j = mm S j := by
  unfold joinS; rw [mm_um_ne _ _ _ h.2.2, mm_um_ne _ _ _ h.2.1, mm_um_ne _ _ _ h.1]
theorem mm7_join (S : St) (k t : Nat) (sh : Int32) (j : Nat) : mm (joinS S k t sh) 7 j = if j = k then nI t else mm S 7 j := by
  unfold joinS
  rw [mm_um_ne _ _ _ (by decide), mm_um_ne _ _ _ (by decide), mm_um]
  by_cases h : j = k
  · rw [if_pos ⟨rfl, h⟩, if_pos h]
  · rw [if_neg (fun z => h z.2), if_neg h]
theorem mm8_join (S : St) (k t : Nat) (sh : Int32) (j : Nat) : mm (joinS S k t sh) 8 j = if j = k then sh else mm S 8 j := by
  unfold joinS
  rw [mm_um_ne _ _ _ (by decide), mm_um]
  by_cases h : j = k
  · rw [if_pos ⟨rfl, h⟩, if_pos h]
  · rw [if_neg (fun z => h z.2), if_neg h, mm_um_ne _ _ _ (by decide)]
theorem mm9_join (S : St) (k t : Nat) (sh : Int32) (j : Nat) : mm (joinS S k t sh) 9 j = if j = k then 0 else mm S 9 j := by
  unfold joinS
  rw [mm_um]
  by_cases h : j = k
  · rw [if_pos ⟨rfl, h⟩, if_pos h]
  · rw [if_neg (fun z => h z.2), if_neg h, mm_um_ne _ _ _ (by decide), mm_um_ne _ _ _ (by decide)]
theorem ok_join {S : St} (h : okS S) {b y t : Nat} (hb : b < nB S) (hy : y < 2) (ht : b < t) (ht2 : t < nB S) (sh : Int32) : okS (joinS S (2 * b + y) t sh) := by
  have e13 := mm_join S (2 * b + y) t sh (j := 13) (by decide)
  have e14 := mm_join S (2 * b + y) t sh (j := 14) (by decide)
  have e17 := mm_join S (2 * b + y) t sh (j := 17) (by decide)
  have e22 := mm_join S (2 * b + y) t sh (j := 22) (by decide)
  obtain ⟨h1, h2, h3, h4, h5, h6, h7, h8, h9, h10⟩ := h
  refine ⟨h1, h2, fun c j hj => ?_, h4, fun j hj1 hj2 => ?_, fun c hc u hu => ?_, ⟨h7.1, fun j hj => ?_⟩, fun s hs => ?_, h9, h10⟩
  · rw [e13, e14, e17]; exact h3 c j hj
  · rw [e13, e14]; exact h5 j hj1 hj2
  · rw [mm7_join]
    by_cases he : 2 * c + u = 2 * b + y
    · rw [if_pos he]
      exact Or.inr ⟨t, by omega, ht2, rfl⟩
    · rw [if_neg he]; exact h6 c hc u hu
  · rw [e13]; exact h7.2 j hj
  · rw [e22]; exact h8 s hs
section CL
variable {e0 mi q : Nat} {P : Nat → Nat → Nat} {S : St} {w : Wd} {LE LW : List (Nat × Ed)}
theorem RC_join {k t : Nat} (R : RC e0 S w q P LE LW) (hS : okS S) (hk : k < 2 * nB S) (ht : t < nB S) (sh : Int32) : RC e0 (joinS S k t sh) (sI (sI (sR w (P 2 k) 0 (some (P 0 t))) (P 2 k) 1 sh) (P 2 k) 2 0) q P LE LW ∧ FrC w (sI (sI (sR w (P 2 k) 0 (some (P 0 t))) (P 2 k) 1 sh) (P 2 k) 2 0) := by
  have hb8 := hS.1.1
  obtain ⟨r1, r2, r3, r4, r5, r6, r7, r8⟩ := R
  have h4k := (r4.1 k hk).1
  have K : Kp (fun x => x = P 2 k) w (sI (sI (sR w (P 2 k) 0 (some (P 0 t))) (P 2 k) 1 sh) (P 2 k) 2 0) := (((Kp.rfl (X := fun x => x = P 2 k)).sR (fun _ => rfl)).sI (fun _ => rfl)).sI (fun _ => rfl)
  have kN : ∀ ci, ci ≠ 4 → ∀ a, bw_is w a ci → ¬ a = P 2 k := fun ci hci a ha => is_ne ha h4k hci
  have em : ∀ j, j ≠ 7 ∧ j ≠ 8 ∧ j ≠ 9 → mm (joinS S k t sh) j = mm S j := fun j hj => mm_join S k t sh hj
  have e3 := c3_kp r3 K (kN 0 (by decide))
  have e5 := c5_kp r5 K (kN 2 (by decide))
  have e6 := c6_kp r6 r5 hS K (kN 2 (by decide))
  refine ⟨⟨c1_eq (c1_kp r1 K (kN 5 (by decide))) (em 1 (by decide)) (em 2 (by decide)) (em 30 (by decide)), c2_eq (c2_kp r2 K (kN 7 (by decide)) (kN 100 (by decide))) (fun _ => rfl) (fun _ => rfl), ?_, ⟨fun j hj => ?_, r4.2⟩, ?_, e6, c7_eq (c7_kp r7 K (kN 3 (by decide))) rfl rfl (em 22 (by decide)) (em 23 (by decide)) (em 24 (by decide)), c8_eq (c8_kp r8 K (kN 1 (by decide))) rfl rfl⟩, K.frC (fun a ha z => by rw [z, h4k.2]; unfold kM; omega)⟩
  · unfold c3 at *
    rw [em 4 (by decide), em 5 (by decide), em 6 (by decide)]; exact e3
  · replace hj : j < 2 * nB S := hj
    rw [mm7_join, mm8_join, mm9_join]
    by_cases hjk : j = k
    · subst hjk
      rw [if_pos rfl, if_pos rfl, if_pos rfl]
      refine ⟨h4k, ?_, fun z => absurd z (nI_nm (by omega)), fun c hc z => ?_, fun _ => ?_⟩
      · rw [pI_I, if_pos ⟨rfl, rfl⟩]
      · replace hc : c < nB S := hc
        rw [pR_I, pR_I, pR_R, if_pos ⟨rfl, rfl⟩, (nI_eq (by omega) (by omega)).mp z]
      · rw [pI_I, if_neg (fun y => by simp at y), pI_I, if_pos ⟨rfl, rfl⟩]
    · have hne : P 2 j ≠ P 2 k := fun z => hjk (r4.2 j k hj hk z)
      obtain ⟨q0, q1, q2, q3, q4⟩ := r4.1 j hj
      rw [if_neg hjk, if_neg hjk, if_neg hjk]
      have eI : ∀ s, wI (sI (sI (sR w (P 2 k) 0 (some (P 0 t))) (P 2 k) 1 sh) (P 2 k) 2 0) (P 2 j) s = wI w (P 2 j) s := fun s => by rw [pI_I, if_neg (fun y => hne y.1), pI_I, if_neg (fun y => hne y.1), pI_R]
      have eR : wR (sI (sI (sR w (P 2 k) 0 (some (P 0 t))) (P 2 k) 1 sh) (P 2 k) 2 0) (P 2 j) 0 = wR w (P 2 j) 0 := by rw [pR_I, pR_I, pR_R, if_neg (fun y => hne y.1)]
      rw [eI, eI, eR]
      exact ⟨q0, q1, q2, q3, q4⟩
  · unfold c5 at *
    rw [em 13 (by decide), em 14 (by decide), em 15 (by decide), em 16 (by decide), em 17 (by decide), em 18 (by decide), em 19 (by decide), em 20 (by decide)]; exact e5
theorem way_is (R : RC e0 S w q P LE LW) (hS : okS S) {b y t : Nat} (hb : b < nB S) (hy : y < 2) (ht : t < nB S) : (wR w (P 2 (2 * b + y)) 0 = some (P 0 t)) ↔ mm S 7 (2 * b + y) = nI t := by
  have hb8 := hS.1.1
  have h4 := R.2.2.2.1.1 (2 * b + y) (by omega)
  rcases hS.2.2.2.2.2.1 b hb y hy with h | ⟨c, c1', c2', c3'⟩
  · rw [h4.2.2.1 h, h]
    exact ⟨fun z => (by cases z), fun z => absurd z.symm (nI_nm (by omega))⟩
  · rw [h4.2.2.2.1 c c2' c3', c3']
    constructor
    · intro z; rw [R.2.2.1.2 c t c2' ht (Option.some.inj z)]
    · intro z; rw [(nI_eq (by omega) (by omega)).mp z]
theorem C_ways {t : Nat} {Q : Int32 → Wd → Prop} (R : RC e0 S w q P LE LW) (hS : okS S) (ht : t < nB S) (hQ : Q (nI (wayN S t (nB S))) w) : ∀ (n k : Nat), k + n = nB S → wb_Br_waysTo_4 e0 mi Q (n + 1) q (some (P 0 t)) (nI (wayN S t k)) (nI k) w := by
  have hb8 := hS.1.1
  intro n
  induction n with
  | zero =>
    intro k hk
    have : k = nB S := by omega
    subst this
    unfold wb_Br_waysTo_4
    refine ⟨R.1.1, C_size R (k := 0) (by decide) ?_⟩
    rw [lsx0]
    exact ⟨fun _ => hQ, fun z => absurd (nI_le (Nat.le_refl _) (by omega)) z⟩
  | succ n ih =>
    intro k hk
    have hkB : k < nB S := by omega
    have h3 := R.2.2.1.1 k hkB
    have w0' : wR w (P 2 (2 * k)) 0 = some (P 0 t) ↔ mm S 7 (2 * k) = nI t := way_is R hS hkB (y := 0) (by decide) ht
    have w1' := way_is R hS hkB (y := 1) (by decide) ht
    have T68 : ∀ (v : Nat) (z1 : Int32) (c : Nat), z1 = nI c → v + c = wayN S t (k + 1) → ∀ (r4 : Option Nat) (i0 : Int32), wb_Br_waysTo_68 e0 mi (wb_Br_waysTo_4 e0 mi Q (n + 1)) Q q (some (P 0 t)) i0 (nI k) r4 (nI v) z1 w := fun v z1 c hz hv r4 i0 => by
      unfold wb_Br_waysTo_68
      intro i1 e1 i2 e2
      rw [e1, e2, hz, nI_add, nI_1, hv]
      exact ih (k + 1) (by omega)
    have T47 : ∀ (z1 : Int32) (c : Nat), z1 = nI c → c = (if mm S 7 (2 * k) = nI t then 1 else 0) → wb_Br_waysTo_47 e0 mi (wb_Br_waysTo_4 e0 mi Q (n + 1)) Q q (some (P 0 t)) (nI (wayN S t k)) (nI k) (some (P 0 k)) (nI (wayN S t k)) z1 w := fun z1 c hz hc => by
      unfold wb_Br_waysTo_47
      intro i1 e1
      rw [hz, nI_add] at e1
      subst e1
      refine ⟨P 0 k, rfl, h3.1, C_wayN R hkB (y := 1) (by decide) rfl ⟨_, rfl, (R.2.2.2.1.1 (2 * k + 1) (by omega)).1, fun z => ?_, fun z => ?_⟩⟩
      · refine T68 (wayN S t k + c) 0 0 rfl ?_ _ _
        show _ = wayN S t k + (if mm S 7 (2 * k) = nI t then 1 else 0) + (if mm S 7 (2 * k + 1) = nI t then 1 else 0)
        rw [if_neg (fun u => z (w1'.mpr u)), ← hc]
      · refine T68 (wayN S t k + c) 1 1 rfl ?_ _ _
        show _ = wayN S t k + (if mm S 7 (2 * k) = nI t then 1 else 0) + (if mm S 7 (2 * k + 1) = nI t then 1 else 0)
        rw [if_pos (w1'.mp z), ← hc]
    unfold wb_Br_waysTo_4
    refine ⟨R.1.1, C_size R (k := 0) (by decide) ?_⟩
    rw [lsx0]
    refine ⟨fun z => absurd z (nI_ge hkB (by omega)), fun _ => ⟨R.1.1, P 6 0, R.1.2.2.2.2 0 (by decide), (R.2.1.1 0 (by decide)).1, C_beltAt R hkB ⟨fun a ha => (by cases ha; exact h3.1), P 0 k, rfl, h3.1, C_wayN R hkB (y := 0) (by decide) rfl ⟨_, rfl, (R.2.2.2.1.1 (2 * k + 0) (by omega)).1, fun z => ?_, fun z => ?_⟩⟩⟩⟩
    · exact T47 0 0 rfl (by rw [if_neg (fun u => z (w0'.mpr u))])
    · exact T47 1 1 rfl (by rw [if_pos (w0'.mp z)])
theorem B_join {x1 x2 x3 x4 : Int32} {nc ns : Nat} {Q : Int32 → Wd → Prop} {X : String → Wd → Prop} (R : RC e0 S w q P LE LW) (hS : okS S) (hc : 5 ≤ nc) (hs : 30 ≤ ns) (h1 : ¬ ((∃ b, b < nB S ∧ x1 = nI b) ∧ (∃ b, b < nB S ∧ x3 = nI b)) → X "java/util/NoSuchElementException" w)
    (h2 : ∀ b t, b < nB S → x1 = nI b → t < nB S → x3 = nI t → ¬ (rng x2 0 1 ∧ rng x4 1 9 ∧ b < t) → X "java/lang/IllegalArgumentException" w)
    (h0 : ∀ b t y, b < nB S → x1 = nI b → t < nB S → x3 = nI t → y < 2 → x2 = nI y → rng x2 0 1 → rng x4 1 9 → b < t → ∀ w', RC e0 (joinS S (2 * b + y) t x4) w' q P LE LW → FrC w w' → Q (nI (wayN (joinS S (2 * b + y) t x4) t (nB S))) w') : wp_Br_join e0 mi q x1 x2 x3 x4 w nc ns Q X := by
  have hb8 := hS.1.1
  unfold wp_Br_join
  refine ⟨R.1.1, 1, 6, by omega, by omega, C_fb R hS (fun z => ⟨Nat.le_refl _, Nat.le_refl _, h1 (fun y => z y.1)⟩) (fun b hb hx => ⟨R.1.1, 1, 6, by omega, by omega, C_fb R hS (fun z => ⟨Nat.le_refl _, Nat.le_refl _, h1 (fun y => z y.2)⟩) (fun t ht hx3 => ⟨1, 6, by omega, by omega, ck_ok (fun z => ⟨Nat.le_refl _, Nat.le_refl _, h2 b t hb hx ht hx3 (fun y => z y.1)⟩) (fun z1 => ⟨1, 6, by omega, by omega, ck_ok (fun z => ⟨Nat.le_refl _, Nat.le_refl _, h2 b t hb hx ht hx3 (fun y => z y.2.1)⟩) (fun z2 => ⟨fun z3 => ?_, fun z3 => ⟨by omega, by omega, h2 b t hb hx ht hx3 (fun y => z3 (by rw [hx, hx3]; exact nI_lt y.2.2 (by omega)))⟩⟩)⟩)⟩)⟩)⟩
  have hbt : b < t := by
    rcases Nat.lt_or_ge b t with u | u
    · exact u
    · rw [hx, hx3] at z3; exact absurd z3 (nI_nlt u (by omega))
  obtain ⟨y, hy, hxy⟩ := nI_of2 (M := 1) (n := 1) (by decide) z1.1 (Int32.not_lt.mp z1.2)
  have hy2 : y < 2 := by omega
  obtain ⟨R', F'⟩ := RC_join R hS (k := 2 * b + y) (by omega) ht x4
  have ok' := ok_join hS hb hy2 hbt ht x4
  unfold wp_Wy_leadTo wp_Br_waysTo
  refine ⟨P 0 b, rfl, (R.2.2.1.1 b hb).1, C_wayN R hb hy2 hxy ⟨_, rfl, (R.2.2.2.1.1 (2 * b + y) (by omega)).1, (R.2.2.2.1.1 (2 * b + y) (by omega)).1, R'.1.1, nB S + 1, ?_⟩⟩
  exact C_ways R' ok' ht (h0 b t y hb hx ht hx3 hy2 hxy z1 z2 hbt _ R' F') (nB S) 0 (by show 0 + nB S = nB S; omega)
end CL
