/-! THE LAW'S CALLS OF A NEW OBJECT OF THE CLASS -/
def rng (x lo hi : Int32) : Prop := ¬ x < lo ∧ ¬ hi < x
theorem ck_ok {e0 mi nc ns : Nat} {x lo hi : Int32} {w : Wd} {Q : Wd → Prop} {X : String → Wd → Prop} (h1 : ¬ rng x lo hi → 1 ≤ nc ∧ 6 ≤ ns ∧ X "java/lang/IllegalArgumentException" w) (h0 : rng x lo hi → Q w) : wp_Br_checkRange e0 mi x lo hi w nc ns Q X := by
  unfold wp_Br_checkRange wb_Br_checkRange_10
  refine ⟨fun z => h1 (fun r => r.1 z), fun z => ⟨fun z2 => h0 ⟨z, Int32.not_lt.mpr z2⟩, fun z2 => h1 (fun r => z2 (Int32.not_lt.mp r.2))⟩⟩
section EL
variable {e0 mi q r nc ns : Nat} {x1 x2 x3 x4 : Int32} {rr : Option Nat} {w w0 : Wd} {B : Nat → Nat} {Q : Int32 → Wd → Prop}
theorem eL_join (h : eC w q B) (hc : 1 ≤ nc) (hs : 6 ≤ ns) (hQ : Q 1 w) : wp_La_join e0 mi (some q) x1 x2 x3 x4 rr w nc ns Q := by
  unfold wp_La_join wp_Br_join
  exact ⟨q, rfl, h.1, nc, ns, Nat.le_refl _, Nat.le_refl _, h.1, nc, ns, Nat.le_refl _, Nat.le_refl _, e_fb h hc hs (Or.inl ⟨rfl, hQ⟩)⟩
theorem eL_run (h : eC w q B) (hc : 1 ≤ nc) (hs : 6 ≤ ns) (hQ : Q 1 w) : wp_La_run e0 mi (some q) x1 x2 x3 w nc ns Q := by
  unfold wp_La_run wp_Br_run
  exact ⟨q, rfl, h.1, nc, ns, Nat.le_refl _, Nat.le_refl _, h.1, nc, ns, Nat.le_refl _, Nat.le_refl _, e_fb h hc hs (Or.inl ⟨rfl, hQ⟩)⟩
theorem eL_scanner (h : eC w q B) (hc : 1 ≤ nc) (hs : 6 ≤ ns) (hQ : Q 1 w) : wp_La_scanner e0 mi (some q) x1 x2 x3 rr w nc ns Q := by
  unfold wp_La_scanner wp_Br_scanner
  exact ⟨q, rfl, h.1, nc, ns, Nat.le_refl _, Nat.le_refl _, h.1, nc, ns, Nat.le_refl _, Nat.le_refl _, e_fb h hc hs (Or.inl ⟨rfl, hQ⟩)⟩
theorem eL_item (h : eC w q B) (hc : 1 ≤ nc) (hs : 6 ≤ ns) (hQ : Q 1 w) : wp_La_item e0 mi (some q) x1 x2 rr w nc ns Q := by
  unfold wp_La_item wp_Br_item
  exact ⟨q, rfl, h.1, nc, ns, Nat.le_refl _, Nat.le_refl _, h.1, nc, ns, Nat.le_refl _, Nat.le_refl _, e_fb h hc hs (Or.inl ⟨rfl, hQ⟩)⟩
theorem eL_clean (h : eC w q B) (hc : 1 ≤ nc) (hs : 6 ≤ ns) (hQ : Q 1 w) : wp_La_clean e0 mi (some q) x1 rr w nc ns Q := by
  unfold wp_La_clean wp_Br_clean
  exact ⟨q, rfl, h.1, nc, ns, Nat.le_refl _, Nat.le_refl _, h.1, nc, ns, Nat.le_refl _, Nat.le_refl _, e_fb h hc hs (Or.inl ⟨rfl, hQ⟩)⟩
theorem eL_known (h : eC w q B) (hc : 1 ≤ nc) (hs : 6 ≤ ns) (hQ : Q 1 w) : wp_La_known e0 mi (some q) x1 x2 rr w nc ns Q := by
  unfold wp_La_known wp_Br_known
  exact ⟨q, rfl, h.1, nc, ns, Nat.le_refl _, Nat.le_refl _, h.1, nc, ns, Nat.le_refl _, Nat.le_refl _, e_fb h hc hs (Or.inl ⟨rfl, hQ⟩)⟩
theorem eL_divert (h : eC w q B) (hc : 1 ≤ nc) (hs : 6 ≤ ns) (hQ : Q 1 w) : wp_La_divert e0 mi (some q) x1 x2 rr w nc ns Q := by
  unfold wp_La_divert wp_Br_divert
  exact ⟨q, rfl, h.1, nc, ns, Nat.le_refl _, Nat.le_refl _, h.1, nc, ns, Nat.le_refl _, Nat.le_refl _, e_fi h hc hs (Or.inl ⟨rfl, hQ⟩)⟩
theorem eL_slip (h : eC w q B) (hc : 1 ≤ nc) (hs : 6 ≤ ns) (hQ : Q 1 w) : wp_La_slip e0 mi (some q) x1 x2 rr w nc ns Q := by
  unfold wp_La_slip wp_Br_slip
  exact ⟨q, rfl, h.1, nc, ns, Nat.le_refl _, Nat.le_refl _, h.1, nc, ns, Nat.le_refl _, Nat.le_refl _, e_fi h hc hs (Or.inl ⟨rfl, hQ⟩)⟩
theorem eL_take (h : eC w q B) (hc : 1 ≤ nc) (hs : 6 ≤ ns) (hQ : Q 1 w) : wp_La_take e0 mi (some q) x1 w nc ns Q := by
  unfold wp_La_take wp_Br_take
  exact ⟨q, rfl, h.1, nc, ns, Nat.le_refl _, Nat.le_refl _, h.1, nc, ns, Nat.le_refl _, Nat.le_refl _, e_fi h hc hs (Or.inl ⟨rfl, hQ⟩)⟩
theorem eL_gap (h : eC w q B) (hc : 1 ≤ nc) (hs : 6 ≤ ns) (hQ : Q 1 w) : wp_La_gap e0 mi (some q) x1 x2 rr w nc ns Q := by
  unfold wp_La_gap wp_Br_gap
  exact ⟨q, rfl, h.1, nc, ns, Nat.le_refl _, Nat.le_refl _, h.1, nc, ns, Nat.le_refl _, Nat.le_refl _, e_fi h hc hs (Or.inl ⟨rfl, hQ⟩)⟩
theorem eL_told (h : eC w q B) (hc : 1 ≤ nc) (hs : 6 ≤ ns) (hQ : Q 1 w) : wp_La_told e0 mi (some q) x1 x2 rr w nc ns Q := by
  unfold wp_La_told wp_Br_told
  exact ⟨q, rfl, h.1, nc, ns, Nat.le_refl _, Nat.le_refl _, h.1, nc, ns, Nat.le_refl _, Nat.le_refl _, e_fi h hc hs (Or.inl ⟨rfl, hQ⟩)⟩
theorem eL_edge (h : eC w q B) (hc : 1 ≤ nc) (hs : 6 ≤ ns) (hQ : Q 1 w) : wp_La_edge e0 mi (some q) x1 x2 rr w nc ns Q := by
  unfold wp_La_edge wp_Br_edge wb_Br_edge_15
  exact ⟨q, rfl, h.1, nc, ns, Nat.le_refl _, Nat.le_refl _, fun _ => ⟨hc, hs, Or.inl ⟨rfl, hQ⟩⟩, fun h1 => ⟨h.1, e_size h (by decide) ⟨fun z => absurd z h1, fun _ => ⟨hc, hs, Or.inl ⟨rfl, hQ⟩⟩⟩⟩⟩
theorem eL_order (h : eC w q B) (hc : 1 ≤ nc) (hs : 6 ≤ ns) (hQ : Q 1 w) : wp_La_order e0 mi (some q) x1 rr w nc ns Q := by
  unfold wp_La_order wp_Br_order wb_Br_order_15
  exact ⟨q, rfl, h.1, nc, ns, Nat.le_refl _, Nat.le_refl _, fun _ => ⟨hc, hs, rfl, hQ⟩, fun h1 => ⟨h.1, e_size h (by decide) ⟨fun z => absurd z h1, fun _ => ⟨hc, hs, rfl, hQ⟩⟩⟩⟩
theorem eL_mean (h : eC w q B) (hc : 1 ≤ nc) (hs : 6 ≤ ns) (hQ : Q 1 w) : wp_La_mean e0 mi (some q) rr w nc ns Q := by
  unfold wp_La_mean wp_Br_mean
  exact ⟨q, rfl, h.1, nc, ns, Nat.le_refl _, Nat.le_refl _, h.1, e_size h (by decide) ⟨fun z => absurd rfl z, fun _ => ⟨hc, hs, rfl, hQ⟩⟩⟩
theorem eL_gaps (h : eC w q B) (hc : 1 ≤ nc) (hs : 6 ≤ ns) (h1 : ¬ rng x1 0 1000 → Q 1 w) (h0 : rng x1 0 1000 → ∀ w', FrC w w' → Q 0 w') : wp_La_gaps e0 mi (some q) x1 w nc ns Q := by
  unfold wp_La_gaps wp_Br_gaps
  exact ⟨q, rfl, h.1, nc, ns, Nat.le_refl _, Nat.le_refl _, nc, ns, Nat.le_refl _, Nat.le_refl _, ck_ok (fun z => ⟨hc, hs, rfl, h1 z⟩) (fun z => ⟨h.1, h0 z _ (FrC.rfl.sI h.1 (by unfold kM; omega))⟩)⟩
theorem eL_step (h : eC w q B) (hr : isRes w r) (hc : 1 ≤ nc) (hs : 6 ≤ ns) (h1 : ¬ rng x1 0 100 → Q 1 w) (h0 : rng x1 0 100 → ∀ w', FrC w w' → Q 0 (sJ w' r 0 0)) : wp_La_step e0 mi (some q) x1 (some r) w nc ns Q := by
  unfold wp_La_step wp_Br_step
  refine ⟨q, rfl, h.1, nc, ns, Nat.le_refl _, Nat.le_refl _, nc, ns, Nat.le_refl _, Nat.le_refl _, ck_ok (fun z => ⟨hc, hs, rfl, h1 z⟩) (fun z => ⟨h.1, e_size h (by decide) ?_⟩)⟩
  obtain ⟨j, hj, rfl⟩ := nI_of2 (M := 100) (n := 100) (by decide) z.1 (Int32.not_lt.mp z.2)
  exact ⟨j + 1, e_stepl (w0 := w) (fun w' hf => r_put (isRes_C hr hf) (h0 z w' hf)) j 0 j _ _ w (by omega) (by omega) h FrC.rfl⟩
theorem eL_belt (h : isC e0 w0 w q B) (hr : isRes w r) (hc : 6 ≤ nc) (hs : 37 ≤ ns) (h1 : ¬ (rng x1 1 10000 ∧ rng x2 0 1000) → Q 1 w) (h0 : rng x1 1 10000 ∧ rng x2 0 1000 → ∀ w', FrC w w' → Q 0 (sJ w' r 0 0)) : wp_La_belt e0 mi (some q) x1 x2 (some r) w nc ns Q := by
  unfold wp_La_belt wp_Br_belt
  have he := eC_of h
  refine ⟨q, rfl, h.1, nc, ns, Nat.le_refl _, Nat.le_refl _, 1, 6, by omega, by omega, ck_ok (fun z => ⟨by omega, by omega, Or.inl ⟨rfl, h1 (fun y => z y.1)⟩⟩) (fun z1 => ⟨1, 6, by omega, by omega, ck_ok (fun z => ⟨by omega, by omega, Or.inl ⟨rfl, h1 (fun y => z y.2)⟩⟩) (fun z2 => ⟨h.1, e_size he (by decide) ⟨fun _ => ⟨h.1, by omega, by omega, fun x hx w31 e31 => ⟨2, 6, by omega, by omega, ?_⟩⟩, fun z => absurd (by decide) z⟩⟩)⟩)⟩
  obtain ⟨g1, g2, g3, g4⟩ := h.2.2.2.2.1 0 (by decide)
  have K0 : Kp (fun b => False) w w31 := by rw [e31]; exact Kp.rfl.new hx
  have hx1 : bw_is w31 x 0 := by rw [e31]; exact bw_is_self _ x 0 0
  refine Bt_init_ok hx1 (by omega) (by omega) (fun w34 y z hy hz hyz hN K1 => ?_)
  have K2 : Kp (fun b => False) w w34 := ((K0.mono (fun _ _ z => z.elim)).trans K1).mono (fun b hb z => hx (z ▸ hb))
  have l1 : isL e0 w34 (B 0) [] := ⟨K2.is g2, by rw [K2.I g2.1 id, g3]; rfl, fun _ z => (by cases z), Or.inl ⟨rfl, by rw [K2.R g2.1 id, g4]⟩⟩
  refine ⟨B 0, g1, K2.is g2, 1, 10, by omega, by omega, isL_add_first l1 (by rw [K2.R g2.1 id, g4]) ⟨0, hN.1, by decide, by decide⟩ (by omega) (by omega) (fun p w' hp ew' => ?_)⟩
  have hp' : p ∉ wL w := fun z => hp (K2.L z)
  have K3 : Kp (fun b => b = B 0) w w' := by
    rw [ew']
    exact ((((((K2.mono (Y := fun b => b = B 0) (fun _ _ z => z.elim)).sI (fun _ => rfl)).new hp).sR (fun _ => rfl)).sR (fun z => absurd z hp')).sI (fun _ => rfl))
  have hf : FrC w w' := K3.frC (fun b _ z => by subst z; rw [g2.2]; unfold kM; omega)
  exact r_put (isRes_C hr hf) (h0 ⟨z1, z2⟩ w' hf)
end EL
