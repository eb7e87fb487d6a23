section
/-! divert: what holds is kept; THE FIRST STATE -/
theorem ok_div {S : St} (h : okS S) {x : Int32} (hx : x = 0 ∨ x = 1) (i : Nat) : okS (um (um S 17 i x) 18 i 1) := by
  refine ok_um ?_ (by unfold okSlot; decide) i 1
  have e13 := mm_um_ne S i x (show (13 : Nat) ≠ 17 by decide)
  have e14 := mm_um_ne S i x (show (14 : Nat) ≠ 17 by decide)
  have e7 := mm_um_ne S i x (show (7 : Nat) ≠ 17 by decide)
  have e22 := mm_um_ne S i x (show (22 : Nat) ≠ 17 by decide)
  obtain ⟨h1, h2, h3, h4, h5, h6, h7, h8, h9, h10⟩ := h
  refine ⟨h1, h2, fun b j hj => ?_, h4, fun j hj1 hj2 => ?_, fun b hb y hy => ?_, ⟨h7.1, fun j hj => ?_⟩, fun s hs => ?_, h9, h10⟩
  · have := h3 b j hj
    rw [e13, e14, mm_um]
    by_cases hji : j = i
    · rw [if_pos ⟨rfl, hji⟩]; exact ⟨this.1, this.2.1, this.2.2.1, this.2.2.2.1, hx⟩
    · rw [if_neg (fun z => hji z.2)]; exact this
  · rw [e13, e14]; exact h5 j hj1 hj2
  · rw [e7]; exact h6 b hb y hy
  · rw [e13]; exact h7.2 j hj
  · rw [e22]; exact h8 s hs
theorem rng01 {x : Int32} (h : rng x 0 1) : x = 0 ∨ x = 1 := by
  obtain ⟨j, hj, hx⟩ := w7 x (fun _ => True) (n := 1) (by decide) h
  have : j = 0 ∨ j = 1 := by omega
  rcases this with u | u <;> subst u
  · exact Or.inl hx
  · exact Or.inr hx
theorem phi_div (S : St) (i : Nat) (x y : Int32) : Phi (um (um S 17 i x) 18 i y) ≤ Phi S := Nat.le_trans (phi_um (by decide) _ _) (phi_um (by decide) _ _)
/-- a new object: nothing there, the least gap 100 -/
def S0 : St := (fun k _ => if k = 2 then 100 else 0, fun _ => [], [], [], [], 0, 0, 0, 0)
theorem ok_S0 : okS S0 := ⟨⟨by decide, by decide, by decide⟩, fun _ _ => rfl, fun b i h => (by cases h), fun _ => List.nodup_nil, fun i h1 h2 => absurd (show i ≤ 0 from h2) (by omega), fun b hb => absurd (show b < 0 from hb) (by omega), ⟨List.nodup_nil, fun i h => (by cases h)⟩, fun s hs => absurd (show s < 0 from hs) (by omega), fun e h => (by cases h), fun e h => (by cases h)⟩
theorem n9_S0 : ok9 S0 := fun _ _ => rfl
theorem phi_S0 : Phi S0 ≤ 720 := by
  have : ∀ n, sm (potI S0) n ≤ 12 * n := fun n => by
    induction n with
    | zero => exact Nat.le_refl _
    | succ n ih =>
      have e : potI S0 (n + 1) ≤ 12 := by
        unfold potI
        rw [if_pos (show nT S0 < n + 1 from Nat.succ_pos n)]
        exact Nat.le_refl _
      show sm (potI S0) n + potI S0 (n + 1) ≤ _
      omega
  have h := this 60
  have e1 : (eds S0).length = 0 := rfl
  have e2 : (wts S0).length = 0 := rfl
  unfold Phi
  rw [e1, e2]
  omega
end
section
/-! PLACES FALL ALONG A ROW (wanted for the answer of gap alone) -/
def okP (S : St) : Prop :=
  (0 ≤ (mm S 2 0).toInt ∧ (mm S 2 0).toInt ≤ 1000) ∧
  (∀ b, b < nB S → (0 ≤ (mm S 4 b).toInt ∧ (mm S 4 b).toInt ≤ 10000) ∧ 0 ≤ (mm S 5 b).toInt ∧ (mm S 5 b).toInt ≤ 1000) ∧
  (∀ i, 1 ≤ i → i ≤ nT S → 1 ≤ (mm S 16 i).toInt ∧ (mm S 16 i).toInt ≤ 2000) ∧
  (∀ b i, i ∈ rr S b → 0 ≤ (mm S 15 i).toInt ∧ (mm S 15 i).toInt ≤ 10000) ∧
  (∀ b, (rr S b).Pairwise (fun i j => (mm S 15 j).toInt ≤ (mm S 15 i).toInt - (mm S 16 i).toInt))
theorem t_add {x y : Int32} (h1 : -1000000 ≤ x.toInt + y.toInt) (h2 : x.toInt + y.toInt < 1000000) : (x + y).toInt = x.toInt + y.toInt := by
  rw [Int32.toInt_add]
  exact Int.bmod_eq_of_le (by omega) (by omega)
theorem t_sub {x y : Int32} (h1 : -1000000 ≤ x.toInt - y.toInt) (h2 : x.toInt - y.toInt < 1000000) : (x - y).toInt = x.toInt - y.toInt := by
  rw [Int32.toInt_sub]
  exact Int.bmod_eq_of_le (by omega) (by omega)
theorem P_of {S S' : St} (h : okP S) (e2 : mm S' 2 = mm S 2) (eB : nB S' = nB S) (e4 : mm S' 4 = mm S 4) (e5 : mm S' 5 = mm S 5) (eT : nT S' = nT S) (e16 : mm S' 16 = mm S 16) (hr : ∀ b, (rr S' b).Sublist (rr S b)) (e15 : mm S' 15 = mm S 15) : okP S' := by
  obtain ⟨h1, h2, h3, h4, h5⟩ := h
  unfold okP
  rw [e2, eB, e4, e5, eT, e16, e15]
  exact ⟨h1, h2, h3, fun b i hi => h4 b i ((hr b).subset hi), fun b => List.Pairwise.sublist (hr b) (h5 b)⟩
theorem rng_i {x lo hi : Int32} (h : rng x lo hi) : lo.toInt ≤ x.toInt ∧ x.toInt ≤ hi.toInt := ⟨Int32.le_iff_toInt_le.mp (Int32.not_lt.mp h.1), Int32.le_iff_toInt_le.mp (Int32.not_lt.mp h.2)⟩
theorem P_um {S : St} (h : okP S) {k : Nat} (hk : k ≠ 2 ∧ k ≠ 4 ∧ k ≠ 5 ∧ k ≠ 15 ∧ k ≠ 16) (i : Nat) (v : Int32) : okP (um S k i v) :=
  P_of h (mm_um_ne S i v (Ne.symm hk.1)) (nB_um S k i v) (mm_um_ne S i v (Ne.symm hk.2.1)) (mm_um_ne S i v (Ne.symm hk.2.2.1)) (nT_um S k i v) (mm_um_ne S i v (Ne.symm hk.2.2.2.2)) (fun b => by rw [rr_um]; exact List.Sublist.refl _) (mm_um_ne S i v (Ne.symm hk.2.2.2.1))
theorem P_gaps {S : St} (h : okP S) {x : Int32} (hx : rng x 0 1000) : okP (um S 2 0 x) := by
  have hi := rng_i hx
  have e0 : (0 : Int32).toInt = 0 := by decide
  have e1 : (1000 : Int32).toInt = 1000 := by decide
  obtain ⟨h1, h2, h3, h4, h5⟩ := h
  unfold okP
  rw [nB_um, nT_um, mm_um_ne S 0 x (show (4 : Nat) ≠ 2 by decide), mm_um_ne S 0 x (show (5 : Nat) ≠ 2 by decide), mm_um_ne S 0 x (show (15 : Nat) ≠ 2 by decide), mm_um_ne S 0 x (show (16 : Nat) ≠ 2 by decide), mm_um, if_pos ⟨rfl, rfl⟩]
  exact ⟨by omega, h2, h3, h4, h5⟩
theorem P_spd {S : St} (h : okP S) {b : Nat} {x : Int32} (hx : rng x 0 1000) (y : Int32) : okP (um (um S 5 b x) 6 b y) := by
  refine P_um ?_ (by decide) _ _
  have hi := rng_i hx
  have e0 : (0 : Int32).toInt = 0 := by decide
  have e1 : (1000 : Int32).toInt = 1000 := by decide
  obtain ⟨h1, h2, h3, h4, h5⟩ := h
  unfold okP
  rw [nB_um, nT_um, mm_um_ne S b x (show (4 : Nat) ≠ 5 by decide), mm_um_ne S b x (show (2 : Nat) ≠ 5 by decide), mm_um_ne S b x (show (15 : Nat) ≠ 5 by decide), mm_um_ne S b x (show (16 : Nat) ≠ 5 by decide)]
  refine ⟨h1, fun c hc => ⟨(h2 c hc).1, ?_⟩, h3, h4, h5⟩
  rw [mm_um]
  by_cases hz : c = b
  · rw [if_pos ⟨rfl, hz⟩]; omega
  · rw [if_neg (fun z => hz z.2)]; exact (h2 c hc).2
theorem P_belt {S : St} (h : okP S) {l v : Int32} (hl : rng l 1 10000) (hv : rng v 0 1000) : okP (beltS S l v) := by
  have a1 := rng_i hl
  have a2 := rng_i hv
  have e0 : (0 : Int32).toInt = 0 := by decide
  have e1 : (1 : Int32).toInt = 1 := by decide
  have e2 : (1000 : Int32).toInt = 1000 := by decide
  have e3 : (10000 : Int32).toInt = 10000 := by decide
  have er : ∀ c, rr (beltS S l v) c = rr S c := fun c => rfl
  have eT : nT (beltS S l v) = nT S := rfl
  obtain ⟨h1, h2, h3, h4, h5⟩ := h
  unfold okP
  rw [nB_belt, eT, mm_belt S l v (show (2 : Nat) ≠ 4 ∧ (2 : Nat) ≠ 5 ∧ (2 : Nat) ≠ 6 ∧ (2 : Nat) ≠ 7 by decide), mm_belt S l v (show (15 : Nat) ≠ 4 ∧ (15 : Nat) ≠ 5 ∧ (15 : Nat) ≠ 6 ∧ (15 : Nat) ≠ 7 by decide), mm_belt S l v (show (16 : Nat) ≠ 4 ∧ (16 : Nat) ≠ 5 ∧ (16 : Nat) ≠ 6 ∧ (16 : Nat) ≠ 7 by decide)]
  refine ⟨h1, fun c hc => ?_, h3, fun b i hi => h4 b i (by rw [er] at hi; exact hi), fun b => by rw [er]; exact h5 b⟩
  rw [mm4_belt, mm5_belt]
  by_cases hz : c = nB S
  · rw [if_pos hz, if_pos hz]; omega
  · rw [if_neg hz, if_neg hz]; exact h2 c (by omega)
theorem P_scan {S : St} (h : okP S) (x p d : Int32) : okP (scanS S x p d) :=
  P_of h (mm_scan S x p d (by decide)) rfl (mm_scan S x p d (by decide)) (mm_scan S x p d (by decide)) rfl (mm_scan S x p d (by decide)) (fun _ => List.Sublist.refl _) (mm_scan S x p d (by decide))
theorem P_join {S : St} (h : okP S) (k t : Nat) (sh : Int32) : okP (joinS S k t sh) := by
  unfold joinS
  exact P_um (P_um (P_um h (by decide) _ _) (by decide) _ _) (by decide) _ _
theorem P_row {S : St} (h : okP S) {b : Nat} {l : List Nat} (hl : l.Sublist (rr S b)) : okP (ur S b l) :=
  P_of h (by rw [mm_ur]) (nB_ur S b l) (by rw [mm_ur]) (by rw [mm_ur]) (nT_ur S b l) (by rw [mm_ur]) (fun c => by
    rw [rr_ur]
    by_cases hc : c = b
    · rw [if_pos hc, hc]; exact hl
    · rw [if_neg hc]; exact List.Sublist.refl _) (by rw [mm_ur])
theorem P_leave {S : St} (h : okP S) (b p i : Nat) (v : Int32) : okP (um (ur S b ((rr S b).eraseIdx p)) 13 i v) :=
  P_um (P_row h (List.eraseIdx_sublist _ _)) (by decide) _ _
theorem P_clean {b : Nat} : ∀ (n : Nat) {S : St}, okP S → okP (cleanN S b n)
  | 0, _, h => h
  | n + 1, S, h => by
    unfold cleanN
    cases hr : rr S b with
    | nil => exact h
    | cons i t =>
      have a := P_leave h b 0 i 2
      rw [hr] at a
      exact P_clean n a
theorem ncat : ∀ l : List Nat, l = [] ∨ ∃ (t : List Nat) (a : Nat), l = t ++ [a]
  | [] => Or.inl rfl
  | x :: l => by
    rcases ncat l with z | ⟨t, a, z⟩
    · exact Or.inr ⟨[], x, by rw [z]; rfl⟩
    · exact Or.inr ⟨x :: t, a, by rw [z]; rfl⟩
theorem rear_i {S : St} (h : okP S) {b i : Nat} (hi : i ∈ rr S b) (h1 : 1 ≤ i) (h2 : i ≤ nT S) : (rearS S i).toInt = (mm S 15 i).toInt - (mm S 16 i).toInt := by
  have a := h.2.2.1 i h1 h2
  have c := h.2.2.2.1 b i hi
  unfold rearS
  exact t_sub (by omega) (by omega)
theorem rear_nn {S : St} (h : okP S) {b : Nat} (hl : ∀ i ∈ rr S b, 1 ≤ i ∧ i ≤ nT S) (hm : ¬ (0 : Int32) < missS S b) : ∀ a ∈ rr S b, 0 ≤ (mm S 15 a).toInt - (mm S 16 a).toInt := by
  rcases ncat (rr S b) with z | ⟨t, a, z⟩
  · rw [z]; intro a ha; cases ha
  · have ham : a ∈ rr S b := by rw [z]; simp
    have er := rear_i h ham (hl a ham).1 (hl a ham).2
    have g := h.1
    have hL := h.2.2.1 a (hl a ham).1 (hl a ham).2
    have hP := h.2.2.2.1 b a ham
    have key : 0 ≤ (mm S 15 a).toInt - (mm S 16 a).toInt := by
      unfold missS at hm
      rw [z, show (t ++ [a]).getLast? = some a by simp] at hm
      replace hm : ¬ (0 : Int32) < mm S 2 0 - rearS S a := hm
      have es : (mm S 2 0 - rearS S a).toInt = (mm S 2 0).toInt - (rearS S a).toInt := t_sub (by omega) (by omega)
      rw [Int32.lt_iff_toInt_lt, es, er, show (0 : Int32).toInt = 0 by decide] at hm
      omega
    intro x hx
    rw [z] at hx
    rcases List.mem_append.mp hx with y | y
    · have pw := h.2.2.2.2 b
      rw [z] at pw
      have := (List.pairwise_append.mp pw).2.2 x y a (by simp)
      omega
    · rw [List.mem_singleton.mp y]; exact key
theorem P_come {S : St} (h : okP S) {j b : Nat} (hl : ∀ i ∈ rr S b, 1 ≤ i ∧ i ≤ nT S) (hn : ∀ c, j ∉ rr S c) (hm : ¬ (0 : Int32) < missS S b) : okP (comeS S j b) := by
  have nn := rear_nn h hl hm
  have eB : nB (comeS S j b) = nB S := by unfold comeS; rw [nB_ur, nB_um, nB_um, nB_um, nB_um, nB_um]
  have eT : nT (comeS S j b) = nT S := by unfold comeS; rw [nT_ur, nT_um, nT_um, nT_um, nT_um, nT_um]
  have e0 : (0 : Int32).toInt = 0 := by decide
  obtain ⟨h1, h2, h3, h4, h5⟩ := h
  unfold okP
  rw [eB, eT, mm_come S j b (show (2 : Nat) ≠ 14 ∧ (2 : Nat) ≠ 15 ∧ (2 : Nat) ≠ 17 ∧ (2 : Nat) ≠ 18 ∧ (2 : Nat) ≠ 19 by decide), mm_come S j b (show (4 : Nat) ≠ 14 ∧ (4 : Nat) ≠ 15 ∧ (4 : Nat) ≠ 17 ∧ (4 : Nat) ≠ 18 ∧ (4 : Nat) ≠ 19 by decide), mm_come S j b (show (5 : Nat) ≠ 14 ∧ (5 : Nat) ≠ 15 ∧ (5 : Nat) ≠ 17 ∧ (5 : Nat) ≠ 18 ∧ (5 : Nat) ≠ 19 by decide), mm_come S j b (show (16 : Nat) ≠ 14 ∧ (16 : Nat) ≠ 15 ∧ (16 : Nat) ≠ 17 ∧ (16 : Nat) ≠ 18 ∧ (16 : Nat) ≠ 19 by decide)]
  have keep : ∀ c, (rr S c).Pairwise (fun i k => (mm (comeS S j b) 15 k).toInt ≤ (mm (comeS S j b) 15 i).toInt - (mm S 16 i).toInt) := fun c => List.Pairwise.imp_of_mem (fun {x y} hx hy r => by
    rw [mm15_come, mm15_come, if_neg (fun z : y = j => hn c (z ▸ hy)), if_neg (fun z : x = j => hn c (z ▸ hx))]
    exact r) (h5 c)
  refine ⟨h1, h2, h3, fun c i hi => ?_, fun c => ?_⟩
  · rw [mm15_come]
    by_cases hij : i = j
    · rw [if_pos hij]; omega
    · rw [if_neg hij]
      rw [rr_come] at hi
      by_cases hc : c = b
      · rw [if_pos hc] at hi
        rcases List.mem_append.mp hi with z | z
        · exact h4 b i z
        · exact absurd (List.mem_singleton.mp z) hij
      · rw [if_neg hc] at hi; exact h4 c i hi
  · rw [rr_come]
    by_cases hc : c = b
    · rw [if_pos hc]
      refine List.pairwise_append.mpr ⟨keep b, List.pairwise_singleton _ _, fun x hx y hy => ?_⟩
      rw [List.mem_singleton.mp hy, mm15_come, mm15_come, if_pos rfl, if_neg (fun z : x = j => hn b (z ▸ hx)), e0]
      exact nn x hx
    · rw [if_neg hc]; exact keep c
theorem P_item {S : St} (h : okP S) (hS : okS S) {b : Nat} {l : Int32} (hx : rng l 1 2000) (hm : ¬ (0 : Int32) < missS S b) : okP (itemS S b l) := by
  have a1 := rng_i hx
  have e1 : (1 : Int32).toInt = 1 := by decide
  have e2 : (2000 : Int32).toInt = 2000 := by decide
  have er : ∀ c, rr (item1 S l) c = rr S c := fun c => by unfold item1; rw [rr_uT, rr_um, rr_um, rr_um]
  have eT : nT (item1 S l) = nT S + 1 := by unfold item1; rw [nT_uT]
  have eB : nB (item1 S l) = nB S := by unfold item1; rw [nB_uT, nB_um, nB_um, nB_um]
  have lo : ∀ c i, i ∈ rr S c → 1 ≤ i ∧ i ≤ nT S := fun c i hi => ⟨(hS.2.2.1 c i hi).1, (hS.2.2.1 c i hi).2.1⟩
  have e16 : ∀ c i, i ∈ rr S c → mm (item1 S l) 16 i = mm S 16 i := fun c i hi => by rw [mm16_item1, if_neg (by have := (lo c i hi).2; omega)]
  have e15 : mm (item1 S l) 15 = mm S 15 := mm_item1 S l (by decide)
  have p1 : okP (item1 S l) := by
    obtain ⟨h1, h2, h3, h4, h5⟩ := h
    unfold okP
    rw [eB, eT, e15, mm_item1 S l (show (2 : Nat) ≠ 16 ∧ (2 : Nat) ≠ 13 ∧ (2 : Nat) ≠ 20 by decide), mm_item1 S l (show (4 : Nat) ≠ 16 ∧ (4 : Nat) ≠ 13 ∧ (4 : Nat) ≠ 20 by decide), mm_item1 S l (show (5 : Nat) ≠ 16 ∧ (5 : Nat) ≠ 13 ∧ (5 : Nat) ≠ 20 by decide)]
    refine ⟨h1, h2, fun i i1 i2' => ?_, fun c i hi => h4 c i (by rw [er] at hi; exact hi), fun c => ?_⟩
    · rw [mm16_item1]
      by_cases hz : i = nT S + 1
      · rw [if_pos hz]; omega
      · rw [if_neg hz]; exact h3 i i1 (by omega)
    · rw [er]
      exact List.Pairwise.imp_of_mem (fun {x y} hx hy r => by rw [e16 c x hx]; exact r) (h5 c)
  unfold itemS
  refine P_come p1 (fun i hi => ?_) (fun c hc => ?_) ?_
  · rw [er] at hi
    rw [eT]
    have := lo b i hi
    omega
  · rw [er] at hc
    have := lo c _ hc
    omega
  · have em : missS (item1 S l) b = missS S b := by
      unfold missS
      rw [er]
      cases hg : (rr S b).getLast? with
      | none => rfl
      | some a =>
        have ha : a ∈ rr S b := List.mem_of_getLast? hg
        show mm (item1 S l) 2 0 - rearS (item1 S l) a = mm S 2 0 - rearS S a
        unfold rearS
        rw [e16 b a ha, e15, mm_item1 S l (by decide)]
    rw [em]; exact hm
theorem P_place {S : St} (h : okP S) (hS : okS S) {b i : Nat} {v : Int32} {pre t : List Nat} (hr : rr S b = pre ++ i :: t) (v0 : 0 ≤ v.toInt) (v1 : v.toInt ≤ 10000) (hp : ∀ a ∈ pre, v.toInt ≤ (mm S 15 a).toInt - (mm S 16 a).toInt) (ht : ∀ j ∈ t, (mm S 15 j).toInt ≤ v.toInt - (mm S 16 i).toInt) : okP (um S 15 i v) := by
  have him : i ∈ rr S b := by rw [hr]; simp
  have e15 : ∀ a, mm (um S 15 i v) 15 a = if a = i then v else mm S 15 a := fun a => by
    rw [mm_um]
    by_cases hz : a = i
    · rw [if_pos ⟨rfl, hz⟩, if_pos hz]
    · rw [if_neg (fun z => hz z.2), if_neg hz]
  have nd := hS.2.2.2.1 b
  rw [hr] at nd
  obtain ⟨-, nd2, nd3⟩ := List.nodup_append.mp nd
  obtain ⟨hit, -⟩ := List.nodup_cons.mp nd2
  have hip : i ∉ pre := fun z => nd3 i z i (by simp) rfl
  obtain ⟨h1, h2, h3, h4, h5⟩ := h
  unfold okP
  rw [nB_um, nT_um, mm_um_ne S i v (show (2 : Nat) ≠ 15 by decide), mm_um_ne S i v (show (4 : Nat) ≠ 15 by decide), mm_um_ne S i v (show (5 : Nat) ≠ 15 by decide), mm_um_ne S i v (show (16 : Nat) ≠ 15 by decide)]
  have keep : ∀ l : List Nat, i ∉ l → l.Pairwise (fun i j => (mm S 15 j).toInt ≤ (mm S 15 i).toInt - (mm S 16 i).toInt) → l.Pairwise (fun a k => (mm (um S 15 i v) 15 k).toInt ≤ (mm (um S 15 i v) 15 a).toInt - (mm S 16 a).toInt) := fun l hl hw => List.Pairwise.imp_of_mem (fun {x y} hx hy r => by
    rw [e15, e15, if_neg (fun z : y = i => hl (z ▸ hy)), if_neg (fun z : x = i => hl (z ▸ hx))]
    exact r) hw
  refine ⟨h1, h2, h3, fun c a ha => ?_, fun c => ?_⟩
  · rw [rr_um] at ha
    rw [e15]
    by_cases hz : a = i
    · rw [if_pos hz]; exact ⟨v0, v1⟩
    · rw [if_neg hz]; exact h4 c a ha
  · rw [rr_um]
    by_cases hc : c = b
    · subst hc
      have pw := h5 c
      rw [hr] at pw ⊢
      obtain ⟨p1, p2, p3⟩ := List.pairwise_append.mp pw
      obtain ⟨q1, q2⟩ := List.pairwise_cons.mp p2
      refine List.pairwise_append.mpr ⟨keep pre hip p1, List.pairwise_cons.mpr ⟨fun j hj => ?_, keep t hit q2⟩, fun a ha j hj => ?_⟩
      · rw [e15, e15, if_pos rfl, if_neg (fun z : j = i => hit (z ▸ hj))]
        exact ht j hj
      · rw [e15, e15, if_neg (fun z : a = i => hip (z ▸ ha))]
        rcases List.mem_cons.mp hj with z | z
        · rw [if_pos z]; exact hp a ha
        · rw [if_neg (fun y : j = i => hit (y ▸ z))]; exact p3 a ha j (List.mem_cons_of_mem _ z)
    · exact keep (rr S c) (fun z => hc (ok_row hS z him)) (h5 c)
theorem to_eqP {S : St} (h : okP S) {b i : Nat} (hb : b < nB S) (him : i ∈ rr S b) (most : Int32) : (toS S b most i).toInt = max (min most.toInt (min (mm S 4 b).toInt ((mm S 15 i).toInt + (mm S 5 b).toInt))) (mm S 15 i).toInt := by
  have hB := h.2.1 b hb
  have hI := h.2.2.2.1 b i him
  have e : (mm S 15 i + mm S 5 b).toInt = (mm S 15 i).toInt + (mm S 5 b).toInt := t_add (by omega) (by omega)
  unfold toS
  simp only []
  rw [i32_max, i32_min, i32_min, e]
theorem most_eq {S : St} (h : okP S) (hS : okS S) {b x : Nat} {pre t : List Nat} (hr : rr S b = pre ++ [x] ++ t) : (mostS S b (pre ++ [x]).getLast?).toInt = (mm S 15 x).toInt - (mm S 16 x).toInt - (mm S 2 0).toInt := by
  have hxm : x ∈ rr S b := by rw [hr]; simp
  have hx1 := hS.2.2.1 b x hxm
  have er := rear_i h hxm hx1.1 hx1.2.1
  have hL := h.2.2.1 x hx1.1 hx1.2.1
  have hP := h.2.2.2.1 b x hxm
  have hg := h.1
  have e : (rearS S x - mm S 2 0).toInt = (rearS S x).toInt - (mm S 2 0).toInt := t_sub (by omega) (by omega)
  rw [show (pre ++ [x]).getLast? = some x by simp]
  show (rearS S x - mm S 2 0).toInt = _
  rw [e, er]
theorem P_to {S : St} (h : okP S) (hS : okS S) {b i : Nat} {pre t : List Nat} (hb : b < nB S) (hr : rr S b = pre ++ i :: t) : (0 ≤ (toS S b (mostS S b pre.getLast?) i).toInt ∧ (toS S b (mostS S b pre.getLast?) i).toInt ≤ 10000) ∧ (mm S 15 i).toInt ≤ (toS S b (mostS S b pre.getLast?) i).toInt ∧ ∀ a ∈ pre, (toS S b (mostS S b pre.getLast?) i).toInt ≤ (mm S 15 a).toInt - (mm S 16 a).toInt := by
  have him : i ∈ rr S b := by rw [hr]; simp
  have pw := h.2.2.2.2 b
  rw [hr] at pw
  obtain ⟨p1, -, p3⟩ := List.pairwise_append.mp pw
  have hB := h.2.1 b hb
  have hI := h.2.2.2.1 b i him
  have eto := to_eqP h hb him (mostS S b pre.getLast?)
  refine ⟨by omega, by omega, fun a ha => ?_⟩
  have c1 := p3 a ha i (by simp)
  rcases ncat pre with z | ⟨t', x, z⟩
  · rw [z] at ha; cases ha
  · have hxm : x ∈ rr S b := by rw [hr, z]; simp
    have hx1 := hS.2.2.1 b x hxm
    have hL := h.2.2.1 x hx1.1 hx1.2.1
    have hg := h.1
    have em : (mostS S b pre.getLast?).toInt = (mm S 15 x).toInt - (mm S 16 x).toInt - (mm S 2 0).toInt := by
      rw [z]
      exact most_eq (t := i :: t) h hS (by rw [hr, z])
    have key : a = x ∨ (mm S 15 x).toInt ≤ (mm S 15 a).toInt - (mm S 16 a).toInt := by
      rw [z] at ha p1
      rcases List.mem_append.mp ha with y | y
      · exact Or.inr ((List.pairwise_append.mp p1).2.2 a y x (by simp))
      · exact Or.inl (List.mem_singleton.mp y)
    rcases key with y | y
    · subst y; omega
    · omega
theorem P_uw {U : St} (r : okP U) (l : List Ed) (n : Nat) : okP (uw U l n) :=
  P_of r (by rw [mm_uw]) (nB_uw U l n) (by rw [mm_uw]) (by rw [mm_uw]) (nT_uw U l n) (by rw [mm_uw]) (fun b => by rw [rr_uw]; exact List.Sublist.refl _) (by rw [mm_uw])
theorem P_um2 {S : St} (h : okP S) (hS : okS S) {b i : Nat} {v x : Int32} {pre t : List Nat} (hr : rr S b = pre ++ i :: t) (v0 : 0 ≤ v.toInt) (v1 : v.toInt ≤ 10000) (hp : ∀ a ∈ pre, v.toInt ≤ (mm S 15 a).toInt - (mm S 16 a).toInt) (ht : ∀ j ∈ t, (mm S 15 j).toInt ≤ v.toInt - (mm S 16 i).toInt) : okP (um (um S 19 i x) 15 i v) := by
  have S1 : okP (um S 19 i x) := P_um h (by decide) _ _
  have O1 : okS (um S 19 i x) := ok_um hS (by unfold okSlot; decide) _ _
  have e15 : mm (um S 19 i x) 15 = mm S 15 := mm_um_ne S i _ (by decide)
  have e16 : mm (um S 19 i x) 16 = mm S 16 := mm_um_ne S i _ (by decide)
  have er : rr (um S 19 i x) b = pre ++ i :: t := by rw [rr_um]; exact hr
  generalize um S 19 i x = U at S1 O1 e15 e16 er ⊢
  exact P_place S1 O1 er v0 v1 (by rw [e15, e16]; exact hp) (by rw [e15, e16]; exact ht)
theorem P_mv1 {S : St} (h : okP S) (hS : okS S) {b i : Nat} {pre t : List Nat} (hb : b < nB S) (hr : rr S b = pre ++ i :: t) : okP (mv1S S b (mostS S b pre.getLast?) i) := by
  obtain ⟨v0, v1, v2⟩ := P_to h hS hb hr
  have pw := h.2.2.2.2 b
  rw [hr] at pw
  have q1 := (List.pairwise_cons.mp (List.pairwise_append.mp pw).2.1).1
  unfold mv1S waitS
  refine P_uw (P_um2 h hS hr v0.1 v0.2 v2 (fun j hj => ?_)) _ _
  have := q1 j hj
  omega
theorem P_mvL {b : Nat} : ∀ (l : List Nat) (S : St) (pre : List Nat), rr S b = pre ++ l → b < nB S → okS S → okP S → okP (mvLS S b pre.getLast? l)
  | [], S, pre, _, _, _, h => by unfold mvLS; exact h
  | i :: t, S, pre, hr, hb, hS, h => by
    unfold mvLS
    have hi := hS.2.2.1 b i (by rw [hr]; simp)
    have o := ok_mv1 (b := b) (most := mostS S b pre.getLast?) hS (i := i) (by have := hS.1.2.1; omega)
    have r := P_mvL t (mv1S S b (mostS S b pre.getLast?) i) (pre ++ [i]) (by rw [rr_mv1, hr]; simp) hb o (P_mv1 h hS hb hr)
    rw [show (pre ++ [i]).getLast? = some i by simp] at r
    exact r
theorem P_mvAll {S : St} (h : okP S) (hS : okS S) : ∀ n, n ≤ nB S → okP (mvAllS S n)
  | 0, _ => by unfold mvAllS; exact h
  | n + 1, hn => by
    have ih := P_mvAll h hS n (by omega)
    unfold mvAllS
    by_cases hz : mm (mvAllS S n) 6 n = 0
    · rw [if_pos hz]; exact ih
    · rw [if_neg hz]
      exact P_mvL _ (mvAllS S n) [] rfl (by rw [(nB_mvAll S n).1]; omega) (ok_mvAll hS n) ih
theorem P_out {S : St} (h : okP S) (b : Nat) : okP (outS S b) := by
  unfold outS
  cases ha : atEndS S b with
  | none => exact h
  | some i => cases hg : goesS S b i with
    | some k => simp only [hg]; exact h
    | none =>
      simp only [hg]
      have a1 := P_leave h b 0 i 1
      have a2 : okP (ug (um (ur S b ((rr S b).eraseIdx 0)) 13 i 1) (gos S ++ [i])) := a1
      have a3 := P_um a2 (k := 30) (by decide) 0 (mm S 30 0 + (mm S 1 0 - mm S 20 i))
      exact a3
theorem P_pass {S : St} (h : okP S) (hS : okS S) {b : Nat} (hb : b < nB S) : okP (passS S b) := by
  unfold passS
  by_cases hz : 0 < missS S b
  · rw [if_pos hz]; exact h
  · rw [if_neg hz]
    cases hg : giverS S b b with
    | none => exact h
    | some k =>
      obtain ⟨x, hx, hk⟩ := giver_some b k hg
      obtain ⟨j, t, ht, -, -, ⟨y, hy, hky⟩, -, -⟩ := cand_some hS hk
      have hk2 : k / 2 = x := by omega
      simp only [hk2, ht]
      have a0 : okP (ur S x t) := P_row h (by rw [ht]; exact List.sublist_cons_self j t)
      have a1 : okP (um (ur S x t) 9 k (mm S 9 k + 1)) := P_um a0 (by decide) _ _
      have er : ∀ c, rr (um (ur S x t) 9 k (mm S 9 k + 1)) c = if c = x then t else rr S c := fun c => by rw [rr_um, rr_ur]
      have hjm : j ∈ rr S x := by rw [ht]; exact List.mem_cons_self
      have hnd := hS.2.2.2.1 x
      rw [ht] at hnd
      have hjt := (List.nodup_cons.mp hnd).1
      have ebx : ¬ b = x := by omega
      have a2 : okP (comeS (um (ur S x t) 9 k (mm S 9 k + 1)) j b) := by
        refine P_come a1 (fun i hi => ?_) (fun c hc => ?_) ?_
        · rw [er, if_neg ebx] at hi
          exact ⟨(hS.2.2.1 b i hi).1, (hS.2.2.1 b i hi).2.1⟩
        · rw [er] at hc
          by_cases hcx : c = x
          · rw [if_pos hcx] at hc; exact hjt hc
          · rw [if_neg hcx] at hc; exact hcx (ok_row hS hc hjm)
        · have em : missS (um (ur S x t) 9 k (mm S 9 k + 1)) b = missS S b := by
            unfold missS rearS
            rw [er, if_neg ebx, mm_um_ne _ _ _ (show (2 : Nat) ≠ 9 by decide), mm_um_ne _ _ _ (show (15 : Nat) ≠ 9 by decide), mm_um_ne _ _ _ (show (16 : Nat) ≠ 9 by decide), mm_ur]
          rw [em]; exact hz
      exact a2
theorem P_exAll : ∀ (n : Nat) (S : St), okP S → okS S → n ≤ nB S → okP (exAllS S n)
  | 0, S, h, _, _ => by unfold exAllS; exact h
  | n + 1, S, h, hS, hn => by
    unfold exAllS
    by_cases hz : mm S 6 n = 0
    · rw [if_pos hz]; exact P_exAll n S h hS (by omega)
    · rw [if_neg hz]
      exact P_exAll n (exchS S n) (P_pass (P_out h n) (ok_out hS (by omega)) (by rw [nB_out]; omega)) (ok_exch hS (by omega)) (by rw [nB_exch]; omega)
theorem P_sec {S : St} (h : okP S) (hS : okS S) : okP (secS S) := by
  unfold secS
  have a1 : okP (tickS S) := P_um h (by decide) _ _
  have a2 : okP (readS (tickS S)) := a1
  have o2 := ok_read (ok_tick hS)
  have o3 := ok_exAll (nB S) (readS (tickS S)) o2 (Nat.le_refl _)
  exact P_mvAll (P_exAll (nB S) _ a2 o2 (Nat.le_refl _)) o3.1 _ (Nat.le_of_eq o3.2.symm)
theorem P_steps {S : St} (h : okP S) (hS : okS S) : ∀ n, okP (stepsS S n)
  | 0 => h
  | n + 1 => P_sec (P_steps h hS n) (ok_steps hS n).1
theorem P_slip {S : St} (h : okP S) (hS : okS S) {b p i : Nat} {x : Int32} (hi : (rr S b)[p]? = some i) (hx : rng x 1 1000) (h1 : x ≤ mm S 15 i) (h2 : slipOk S b p i x) : okP (um S 15 i (mm S 15 i - x)) := by
  have him := List.mem_of_getElem? hi
  have hI := h.2.2.2.1 b i him
  have hT := hS.2.2.1 b i him
  have hL := h.2.2.1 i hT.1 hT.2.1
  have a1 := rng_i hx
  have e1 : (1 : Int32).toInt = 1 := by decide
  have e2 : (1000 : Int32).toInt = 1000 := by decide
  have h1' := Int32.le_iff_toInt_le.mp h1
  have ev : (mm S 15 i - x).toInt = (mm S 15 i).toInt - x.toInt := t_sub (by omega) (by omega)
  obtain ⟨hlt, hget⟩ := List.getElem?_eq_some_iff.mp hi
  have hr : rr S b = (rr S b).take p ++ i :: (rr S b).drop (p + 1) := by
    rw [← hget, ← List.drop_eq_getElem_cons hlt, List.take_append_drop]
  have pw := h.2.2.2.2 b
  rw [hr] at pw
  obtain ⟨p1, p2, p3⟩ := List.pairwise_append.mp pw
  obtain ⟨q1, q2⟩ := List.pairwise_cons.mp p2
  have hg := h.1
  refine P_place h hS hr (by omega) (by omega) (fun a ha => ?_) (fun j hj => ?_)
  · have := p3 a ha i (by simp)
    omega
  · cases hd : (rr S b).drop (p + 1) with
    | nil => rw [hd] at hj; cases hj
    | cons y t =>
      have hy : (rr S b)[p + 1]? = some y := by
        have : ((rr S b).drop (p + 1))[0]? = some y := by rw [hd]; rfl
        rw [List.getElem?_drop] at this
        exact this
      have hym := List.mem_of_getElem? hy
      have hY := h.2.2.2.1 b y hym
      have hYT := hS.2.2.1 b y hym
      have hYL := h.2.2.1 y hYT.1 hYT.2.1
      have s := h2 y hy
      have er := rear_i h him hT.1 hT.2.1
      have s1 : (rearS S i - x).toInt = (rearS S i).toInt - x.toInt := t_sub (by omega) (by omega)
      have s2 : (rearS S i - x - mm S 15 y).toInt = (rearS S i - x).toInt - (mm S 15 y).toInt := t_sub (by omega) (by omega)
      have s' := Int32.le_iff_toInt_le.mp s
      rw [hd] at hj q2
      rcases List.mem_cons.mp hj with z | z
      · subst z; omega
      · have := (List.pairwise_cons.mp q2).1 j z
        omega
theorem P_S0 : okP S0 := ⟨⟨by decide, by decide⟩, fun b hb => absurd (show b < 0 from hb) (by omega), fun i h1 h2 => absurd (show i ≤ 0 from h2) (by omega), fun b i h => (by cases h), fun _ => List.Pairwise.nil⟩
theorem gap_eq {S : St} (h : okP S) (hS : okS S) {b p p2 i j : Nat} (hi : (rr S b)[p]? = some i) (hj : (rr S b)[p2]? = some j) (hne : ¬ i = j) : (if p2 ≤ p then rearS S j - mm S 15 i else rearS S i - mm S 15 j) = (if mm S 15 i ≤ mm S 15 j then rearS S j - mm S 15 i else rearS S i - mm S 15 j) := by
  obtain ⟨l1, g1⟩ := List.getElem?_eq_some_iff.mp hi
  obtain ⟨l2, g2⟩ := List.getElem?_eq_some_iff.mp hj
  have pw := List.pairwise_iff_getElem.mp (h.2.2.2.2 b)
  have li := h.2.2.1 i (hS.2.2.1 b i (List.mem_of_getElem? hi)).1 (hS.2.2.1 b i (List.mem_of_getElem? hi)).2.1
  have lj := h.2.2.1 j (hS.2.2.1 b j (List.mem_of_getElem? hj)).1 (hS.2.2.1 b j (List.mem_of_getElem? hj)).2.1
  rcases Nat.lt_trichotomy p2 p with z | z | z
  · have r := pw p2 p l2 l1 z
    rw [g1, g2] at r
    rw [if_pos (Nat.le_of_lt z), if_pos (Int32.le_iff_toInt_le.mpr (by omega))]
  · subst z
    exact absurd (g1.symm.trans g2) hne
  · have r := pw p p2 l1 l2 z
    rw [g1, g2] at r
    rw [if_neg (Nat.not_le_of_lt z), if_neg (fun y => by have := Int32.le_iff_toInt_le.mp y; omega)]
/-- both: ok9, and places -/
def okX (S : St) : Prop := ok9 S ∧ okP S
end
section
/-! THE REFERENCE AT THE LAW'S START HOLDS THE FIRST STATE -/
theorem RM_S0 {w : Wd} {m : Nat} {A : Nat → Nat} (h : isM w m A) (h1 : ∀ j, wI w m j = if j = 2 then 100 else 0) (h2 : ∀ k, 0 < mKd k → ∀ j, wI w (A k) j = 0 ∧ wJ w (A k) j = 0) : RM S0 w m A := by
  refine ⟨h, ⟨?_, ?_, ?_⟩, ⟨?_, ?_, ?_, ?_, ?_, ?_⟩, fun k hk i _ => ?_, fun b _ => ⟨?_, fun j i hj => ?_⟩, fun j e hj => ?_, fun j e hj => ?_, fun j e hj => ?_⟩
  · rw [h1]; rfl
  · rw [h1]; rfl
  · rw [h1]; rfl
  · rw [h1]; rfl
  · rw [h1]; rfl
  · rw [h1]; rfl
  · rw [h1]; rfl
  · rw [h1]; rfl
  · rw [h1]; rfl
  · have k2 : k ≠ 2 := fun z => by subst z; unfold isInt at hk; revert hk; decide
    rw [(h2 k (isInt_kd hk).1 i).1]
    show (0 : Int32) = if k = 2 then 100 else 0
    rw [if_neg k2]
  · rw [(h2 10 (by decide) b).1]; rfl
  · have : ([] : List Nat)[j]? = some i := hj
    simp at this
  · have : ([] : List Ed)[j]? = some e := hj
    simp at this
  · have : ([] : List Ed)[j]? = some e := hj
    simp at this
  · have : ([] : List Nat)[j]? = some e := hj
    simp at this
end
section
/-! THE CLASS AT THE LAW'S START HOLDS THE FIRST STATE -/
def P00 (B : Nat → Nat) : Nat → Nat → Nat := fun a k => if a = 6 then B k else 0
theorem RC_S0 {e0 : Nat} {w0 w : Wd} {q : Nat} {B : Nat → Nat} (h : isC e0 w0 w q B) : RC e0 S0 w q (P00 B) [] [] := by
  obtain ⟨h1, h2, h3, h4, h5, h6, -⟩ := h
  have zl : ∀ k, k < 6 → lmx S0 k = 0 ∧ lsx S0 (P00 B) [] [] k = [] := fun k hk => by
    have : k = 0 ∨ k = 1 ∨ k = 2 ∨ k = 3 ∨ k = 4 ∨ k = 5 := by omega
    rcases this with u | u | u | u | u | u <;> subst u <;> exact ⟨rfl, rfl⟩
  refine ⟨⟨h1, h2, h3, h4, fun k hk => (h5 k hk).1⟩, ⟨fun k hk => ?_, fun j k hj hk hn z => hn (h6 j k hj hk z), fun j k hj _ _ z => ?_⟩, ⟨fun b hb => absurd (show b < 0 from hb) (by omega), fun b c hb => absurd (show b < 0 from hb) (by omega)⟩, ⟨fun k hk => absurd (show k < 2 * 0 from hk) (by omega), fun k c hk => absurd (show k < 2 * 0 from hk) (by omega)⟩, ⟨fun i _ hi => absurd (show i ≤ 0 from hi) (by omega), fun i j hi1 hi => absurd (show i ≤ 0 from hi) (by omega)⟩, fun b p i hp => ?_, fun s hs => absurd (show s < 0 from hs) (by omega), ⟨rfl, rfl, fun x hx => (by cases hx), fun x hx => (by cases hx)⟩⟩
  · obtain ⟨a1, a2, a3, a4⟩ := h5 k hk
    rw [(zl k hk).1, (zl k hk).2]
    refine ⟨a2, a3, Nat.le_refl _, by decide, fun x hx => (by cases hx), fun _ => a4, fun z => absurd z (by omega)⟩
  · rw [(zl j hj).1] at z
    exact absurd z (by omega)
  · have : ([] : List Nat)[p]? = some i := hp
    simp at this
end
section
/-! THE LAW'S START: both objects and the row of one long are made -/
theorem isC_kp {e0 : Nat} {w0 w w' : Wd} {q : Nat} {B : Nat → Nat} {X : Nat → Prop} (h : isC e0 w0 w q B) (hk : Kp X w w') (hX : ∀ b, b ∈ wL w → ¬ X b) : isC e0 w00 w' q B := by
  obtain ⟨h1, h2, h3, h4, h5, h6, -⟩ := h
  have hI := hk.I h1.1 (hX q h1.1)
  have hR := hk.R h1.1 (hX q h1.1)
  refine ⟨hk.is h1, by rw [hI, h2], by rw [hI, h3], by rw [hI, h4], fun k hk2 => ?_, h6, fun b hb => (by cases hb)⟩
  obtain ⟨a1, a2, a3, a4⟩ := h5 k hk2
  exact ⟨by rw [hR, a1], hk.is a2, by rw [hk.I a2.1 (hX _ a2.1), a3], by rw [hk.R a2.1 (hX _ a2.1), a4]⟩
theorem mIn_kp {w0 w : Wd} {m : Nat} {A : Nat → Nat} (h : mIn 32 w0 w m A) : isM w m A :=
  ⟨h.1, fun k hk => ⟨(h.2.2.1 k (mKd_hi hk).2.2 hk).1, (h.2.2.1 k (mKd_hi hk).2.2 hk).2.1, (h.2.2.1 k (mKd_hi hk).2.2 hk).2.2.1⟩, fun j k hj hk => h.2.2.2.1 j k (mKd_hi hj).2.2 (mKd_hi hk).2.2 hj hk⟩
/-- what holds where the law's loop begins -/
def atStart (e0 : Nat) (w : Wd) (q m r : Nat) : Prop := ∃ A B, isC e0 w00 w q B ∧ isM w m A ∧ (∀ j, wI w m j = if j = 2 then 100 else 0) ∧ (∀ k, 0 < mKd k → ∀ j, wI w (A k) j = 0 ∧ wJ w (A k) j = 0) ∧ isRes w r ∧ (∀ k, 0 < mKd k → A k ≠ r)
theorem law_start {e0 mi L : Nat} {xs : Nat → Int32} {nc ns : Nat} (hc : 31 ≤ nc) (hs : 10180 ≤ ns) (h : ∀ q m r w, atStart e0 w q m r → ∃ n, wb_La_law_23 e0 mi L xs n (some q) (some m) (some r) 0 w (nc - 31) (ns - 10180)) : wp_La_law e0 mi w00 nc ns L xs := by
  unfold wp_La_law
  refine ⟨by omega, by omega, fun q hq w5 e5 => ⟨6, 18, by omega, by omega, ?_⟩⟩
  have a1 : bw_is w5 q 5 := by rw [e5]; exact bw_is_self _ q 5 0
  have a2 : ∀ j, wI w5 q j = 0 := fun j => by rw [e5, pI_N, if_pos rfl]
  refine isC_init a1 a2 (by omega) (by omega) (fun w8 B hC => ⟨by omega, by omega, fun m hm w18 e18 => ⟨22, 10120, by omega, by omega, ?_⟩⟩)
  have b1 : bw_is w18 m 6 := by rw [e18]; exact bw_is_self _ m 6 0
  have b2 : ∀ j, wI w18 m j = 0 := fun j => by rw [e18, pI_N, if_pos rfl]
  refine isM_init b1 b2 (by omega) (by omega) (fun w21 A hI => ?_)
  have e1 : (1 : Int32).toNatClampNeg = 1 := by decide
  refine ⟨by decide, by decide, by omega, by rw [e1]; omega, fun r hr w33 e33 => ?_⟩
  rw [e1] at e33 ⊢
  have n1 : nc - 1 - 6 - 1 - 22 - 1 = nc - 31 := by omega
  have n2 : ns - 9 - 18 - 32 - 10120 - 1 = ns - 10180 := by omega
  rw [n1, n2]
  have M1 := mIn_kp hI
  have hrA : ∀ k, 0 < mKd k → A k ≠ r := fun k hk z => hr (z ▸ (M1.2.1 k hk).2.1.1)
  have hrm : m ≠ r := fun z => hr (z ▸ M1.1.1)
  have K1 : Kp (fun b => b = m) w8 w18 := by rw [e18]; exact Kp.rfl.new hm
  have K2 : Kp (fun b => b = m) w18 w21 := fun b hb => by
    obtain ⟨c1, c2, c3, c4⟩ := hI.2.2.2.2 b hb
    exact ⟨c1, c2, c3, c4⟩
  have K3 : Kp (fun b => b = m) w21 w33 := by rw [e33]; exact Kp.rfl.new hr
  have K4 : Kp (fun _ => False) w21 w33 := by rw [e33]; exact Kp.rfl.new hr
  refine h q m r w33 ⟨A, B, isC_kp hC ((K1.trans K2).trans K3) (fun b hb z => hm (z ▸ hb)), ⟨K4.is M1.1, fun k hk => ⟨?_, K4.is (M1.2.1 k hk).2.1, ?_⟩, M1.2.2⟩, fun j => ?_, fun k hk j => ⟨?_, ?_⟩, ⟨?_, ?_⟩, hrA⟩
  · rw [K4.R M1.1.1 id]; exact (M1.2.1 k hk).1
  · rw [K4.N (M1.2.1 k hk).2.1.1]; exact (M1.2.1 k hk).2.2
  · rw [K4.I M1.1.1 id]; exact hI.2.1 j
  · rw [K4.I (M1.2.1 k hk).2.1.1 id]; exact ((hI.2.2.1 k (mKd_hi hk).2.2 hk).2.2.2 j).1
  · rw [K4.J (M1.2.1 k hk).2.1.1 id]; exact ((hI.2.2.1 k (mKd_hi hk).2.2 hk).2.2.2 j).2
  · rw [e33]; exact bw_is_self _ r 102 1
  · rw [e33, pN_N, if_pos rfl]
end
section
/-! FRAMES: the reference over the class's calls, the class over the reference's calls, both over the law's row -/
theorem RM_fr {S : St} {w w' : Wd} {m : Nat} {A : Nat → Nat} (h : RM S w m A) (hm : wI w' m = wI w m ∧ wR w' m = wR w m) (hm2 : bw_is w' m 6) (hA : ∀ k, 0 < mKd k → bw_is w' (A k) (mKd k) ∧ wN w' (A k) = wN w (A k) ∧ wI w' (A k) = wI w (A k) ∧ wJ w' (A k) = wJ w (A k)) : RM S w' m A := by
  obtain ⟨h1, ⟨a1, a2, a3⟩, ⟨b1, b2, b3, b4, b5, b6⟩, h4, h5, h6, h7, h8⟩ := h
  refine ⟨⟨hm2, fun k hk => ⟨?_, (hA k hk).1, ?_⟩, h1.2.2⟩, ⟨?_, ?_, ?_⟩, ⟨?_, ?_, ?_, ?_, ?_, ?_⟩, fun k hk i hi => ?_, fun b hb => ⟨?_, fun j i hj => ?_⟩, fun j e hj => ?_, fun j e hj => ?_, fun j i hj => ?_⟩
  · rw [hm.2]; exact (h1.2.1 k hk).1
  · rw [(hA k hk).2.1]; exact (h1.2.1 k hk).2.2
  · rw [hm.1]; exact a1
  · rw [hm.1]; exact a2
  · rw [hm.1]; exact a3
  · rw [hm.1]; exact b1
  · rw [hm.1]; exact b2
  · rw [hm.1]; exact b3
  · rw [hm.1]; exact b4
  · rw [hm.1]; exact b5
  · rw [hm.1]; exact b6
  · rw [(hA k (isInt_kd hk).1).2.2.1]; exact h4 k hk i hi
  · rw [(hA 10 (by decide)).2.2.1]; exact (h5 b hb).1
  · rw [(hA 11 (by decide)).2.2.1]; exact (h5 b hb).2 j i hj
  · rw [(hA 26 (by decide)).2.2.2]; exact h6 j e hj
  · rw [(hA 28 (by decide)).2.2.2]; exact h7 j e hj
  · rw [(hA 31 (by decide)).2.2.1]; exact h8 j i hj
theorem RM_frC {S : St} {w w' : Wd} {m : Nat} {A : Nat → Nat} (h : RM S w m A) (F : FrC w w') : RM S w' m A := by
  have i6 := h.1.1
  obtain ⟨a1, a2, a3, a4⟩ := F m i6.1
  have km := a4 (by rw [i6.2]; exact Or.inl rfl)
  refine RM_fr h ⟨km.1, km.2.1⟩ ⟨a1, a2.trans i6.2⟩ (fun k hk => ?_)
  have ik := (h.1.2.1 k hk).2.1
  obtain ⟨b1, b2, b3, b4⟩ := F (A k) ik.1
  have kk := b4 (by rw [ik.2]; exact Or.inr (mKd_hi hk).1)
  exact ⟨⟨b1, b2.trans ik.2⟩, b3, kk.1, kk.2.2⟩
theorem RM_row {S : St} {w : Wd} {m r j : Nat} {A : Nat → Nat} {v : Int64} (h : RM S w m A) (hr : ∀ k, 0 < mKd k → A k ≠ r) : RM S (sJ w r j v) m A := by
  refine RM_fr h ⟨rfl, rfl⟩ h.1.1 (fun k hk => ⟨(h.1.2.1 k hk).2.1, rfl, rfl, ?_⟩)
  have K : Kp (fun b => b = r) w (sJ w r j v) := Kp.rfl.sJ (fun _ => rfl)
  exact K.J (h.1.2.1 k hk).2.1.1 (hr k hk)
theorem RC_fx {e0 : Nat} {S S' : St} {w w' : Wd} {q m : Nat} {A : Nat → Nat} {P : Nat → Nat → Nat} {LE LW : List (Nat × Ed)} (R : RC e0 S w q P LE LW) (hS : okS S) (hM : isM w m A) (F : FX m A w w') : RC e0 S w' q P LE LW := by
  have K : Kp (fun b => b = m ∨ ∃ k, 0 < mKd k ∧ b = A k) w w' := fun b hb => by
    obtain ⟨⟨l1, l2, l3, l4⟩, f⟩ := F
    refine ⟨by rw [l1]; exact hb, by rw [l2], by rw [l4], fun hx => ?_⟩
    have := f b (fun z => hx (Or.inl z)) (fun k hk z => hx (Or.inr ⟨k, hk, z⟩))
    exact ⟨this.1, by rw [l3], this.2⟩
  refine RC_kp R hS K (fun a ci ha hx => ?_)
  rcases hx with z | ⟨k, hk, z⟩
  · have := hM.1.2
    rw [← z, ha.2] at this
    exact Or.inl this
  · have := (hM.2.1 k hk).2.1.2
    rw [← z, ha.2] at this
    rw [this]
    exact Or.inr (mKd_hi hk).1
theorem RC_row {e0 : Nat} {S : St} {w : Wd} {q r j : Nat} {v : Int64} {P : Nat → Nat → Nat} {LE LW : List (Nat × Ed)} (R : RC e0 S w q P LE LW) (hS : okS S) (hr : isRes w r) : RC e0 S (sJ w r j v) q P LE LW := by
  have K : Kp (fun b => b = r) w (sJ w r j v) := Kp.rfl.sJ (fun _ => rfl)
  refine RC_kp R hS K (fun a ci ha z => ?_)
  have := hr.1.2
  rw [← z, ha.2] at this
  rw [this]
  exact Or.inr (by decide)
theorem res_frC {w w' : Wd} {r : Nat} (h : isRes w r) (F : FrC w w') : isRes w' r ∧ wJ w' r = wJ w r := by
  obtain ⟨a1, a2, a3, a4⟩ := F r h.1.1
  have k := a4 (by rw [h.1.2]; exact Or.inr (by decide))
  exact ⟨⟨⟨a1, a2.trans h.1.2⟩, a3.trans h.2⟩, k.2.2⟩
theorem res_fx {w w' : Wd} {m r : Nat} {A : Nat → Nat} (h : isRes w r) (hm : isM w m A) (hr : ∀ k, 0 < mKd k → A k ≠ r) (F : FX m A w w') : isRes w' r ∧ wJ w' r = wJ w r := by
  obtain ⟨⟨l1, l2, l3, l4⟩, f⟩ := F
  have hrm : r ≠ m := fun z => by
    have a := hm.1.2
    rw [← z, h.1.2] at a
    exact absurd a (by decide)
  exact ⟨⟨⟨by rw [l1]; exact h.1.1, by rw [l2]; exact h.1.2⟩, by rw [l4]; exact h.2⟩, (f r hrm (fun k hk z => hr k hk z.symm)).2⟩
end
