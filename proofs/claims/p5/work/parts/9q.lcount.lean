/-! ONE CALL OF BOTH: count; what stands behind a call -/
theorem Jn_m {e0 c q m r nc ns : Nat} {w : Wd} (J : Jn e0 c w q m r nc ns) : bw_is w q 5 ∧ bw_is w m 6 ∧ isRes w r := by
  obtain ⟨S, A, P, LE, LW, R, M, hS, h9, hp, hr, hA, n1, n2⟩ := J
  exact ⟨R.1.1, M.1.1, hr⟩
theorem Jn_up {e0 c q m r nc ns : Nat} {w : Wd} (J : Jn e0 c w q m r nc ns) : Jn e0 (c + 1) w q m r nc ns := by
  obtain ⟨S, A, P, LE, LW, R, M, hS, h9, hp, hr, hA, n1, n2⟩ := J
  exact ⟨S, A, P, LE, LW, R, M, hS, h9, by omega, hr, hA, by omega, by omega⟩
theorem L_count {e0 mi c q m r nc ns : Nat} {w : Wd} {x1 : Int32} {Q' : Int32 → Wd → Prop} (J : Jn e0 c w q m r nc ns)
    (hQ : ∀ v, (∀ K : Int32 → Wd → Prop, (∀ w18, Jn e0 (c + 1) w18 q m r nc ns → K v w18) → wp_Mo_count e0 mi m x1 w K) → Q' v w) : wp_Br_count e0 mi q x1 w Q' := by
  obtain ⟨S, A, P, LE, LW, R, M, hS, h9, hp, hr, hA, n1, n2⟩ := J
  have T : ∀ v : Int32, (∀ K : Int32 → Wd → Prop, (∀ w', PM m A S 0 w w' → K v w') → wp_Mo_count e0 mi m x1 w K) → Q' v w := fun v hv => hQ v (fun K hK => hv K (fun w' p => hK w' ⟨S, A, P, LE, LW, RC_fx (S' := S) R hS M.1 p.2.1, p.1, hS, h9, by omega, (res_fx hr M.1 hA p.2.1).1, hA, by omega, by omega⟩))
  refine B_count R hS (fun y => ?_) (fun y => ?_) (fun y => ?_) (fun y => ?_) (fun y => ?_) (fun y => ?_) (fun y => ?_) (fun y => ?_) (fun y => ?_)
  iterate 8 (subst y; exact T _ (fun K hK => N_count M hS (fun z w' p => by first | exact hK w' p | exact absurd z (by decide)) (fun z w' p => by first | exact hK w' p | exact absurd z (by decide)) (fun z w' p => by first | exact hK w' p | exact absurd z (by decide)) (fun z w' p => by first | exact hK w' p | exact absurd z (by decide)) (fun z w' p => by first | exact hK w' p | exact absurd z (by decide)) (fun z w' p => by first | exact hK w' p | exact absurd z (by decide)) (fun z w' p => by first | exact hK w' p | exact absurd z (by decide)) (fun z w' p => by first | exact hK w' p | exact absurd z (by decide)) (fun z => absurd z (by decide))))
  have nn : ∀ k : Int32, ¬ (k.toInt < 0 ∨ 7 < k.toInt) → x1 = k → False := fun k hk e => hk (e ▸ y)
  exact T _ (fun K hK => N_count M hS (fun z => absurd (nn _ (by decide) z) id) (fun z => absurd (nn _ (by decide) z) id) (fun z => absurd (nn _ (by decide) z) id) (fun z => absurd (nn _ (by decide) z) id) (fun z => absurd (nn _ (by decide) z) id) (fun z => absurd (nn _ (by decide) z) id) (fun z => absurd (nn _ (by decide) z) id) (fun z => absurd (nn _ (by decide) z) id) (fun _ w' p => hK w' p))
