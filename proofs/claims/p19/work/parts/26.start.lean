/-! the start of the law, printed by wip/gen/start.py -/
abbrev fl9 : List Cond := flatC (Jvm.Cond.and given_1 narrow_1)
theorem st_nc : ∀ q ∈ NCS, Cond.not (.castable q.1 q.2) ∈ fl9 := by decide +kernel
theorem st_str : ∀ q ∈ STRS, Cond.exactly (.string q.1 q.2.1) "java/lang/String" ∈ fl9 := by decide +kernel
theorem st_strw : ∀ q ∈ STRS, Cond.stringRef q.1 q.2.1 q.2.2 ∈ lw_tbl := by decide +kernel
theorem st_cast : ∀ q ∈ CASTS, Cond.castable q.1 q.2 ∈ lw_tbl := by decide +kernel
theorem st_decl : ∀ y ∈ DECLS, Cond.declares y ∈ lw_tbl := by decide +kernel
set_option maxHeartbeats 2000000 in
set_option maxRecDepth 100000 in
theorem lw_cx {p : Program} {l : Launch} {s : State} {m : MethodId} {meth : Method} {c : Code} {b L : Nat} {xs : Nat → Int32} (hf : l.stackTraces = false) (C0 : lw_At p s m meth c b L xs) (hnm : meth.name = "law") (hex : c.exceptionTable.toList = []) : ∃ (D : va_G) (AC : Nat → ClassId) (e0 mi : Nat), Cx p l s m #[Value.ref b] meth c D AC e0 mi (fun q : Nat => s.heap.size ≤ q) n_La_law b_La_law 7 (some .boolean) := by
  obtain ⟨hx, hb, hr, hml, hown, hts, hX, hbl, hlocks, hgv⟩ := C0
  have ht : ∀ w ∈ TBL, w.before #[Value.ref b] s = true := fun w h => hts w (tbl_in w h)
  have hfl := flat_of_before _ hgv
  have hA : ∀ a : Nat, a < s.heap.size → ¬ (fun q : Nat => s.heap.size ≤ q) a := fun a h => Nat.not_le.mpr h
  obtain ⟨c0, i0, k0⟩ := u_known (C := "BeltRows$Belt") (T := T_Bt) (N := 9) (n := 9) ht in_Bt (ht _ m_212)
  obtain ⟨c1, i1, k1⟩ := u_known (C := "BeltRows$Edge") (T := T_Ed) (N := 4) (n := 4) ht in_Ed (ht _ m_589)
  obtain ⟨c2, i2, k2⟩ := u_known (C := "BeltRows$Item") (T := T_It) (N := 11) (n := 11) ht in_It (ht _ m_438)
  obtain ⟨c3, i3, k3⟩ := u_known (C := "BeltRows$Scanner") (T := T_Sc) (N := 4) (n := 4) ht in_Sc (ht _ m_398)
  obtain ⟨c4, i4, k4⟩ := u_known (C := "BeltRows$Way") (T := T_Wy) (N := 3) (n := 3) ht in_Wy (ht _ m_218)
  obtain ⟨c5, i5, k5⟩ := u_known (C := "BeltRows") (T := T_Br) (N := 9) (n := 9) ht in_Br (ht _ m_26)
  obtain ⟨c6, i6, k6⟩ := u_known (C := "BeltRowsModel") (T := T_Mo) (N := 32) (n := 32) ht in_Mo (ht _ m_739)
  obtain ⟨c7, i7, k7⟩ := u_known (C := "java/util/ArrayList") (T := T_Al) (N := 3) (n := 3) ht in_Al (ht _ m_34)
  obtain ⟨cI, kI, pI, nI1, nI2, nI3⟩ := Cond.arrayClass_spec (ht _ m_841)
  obtain ⟨cJ, kJ, pJ, nJ1, nJ2, nJ3⟩ := Cond.arrayClass_spec (ht _ m_843)
  obtain ⟨cZ, kZ, pZ, nZ1, nZ2, nZ3⟩ := Cond.arrayClass_spec (ht _ m_842)
  have hao : (Cond.arrayOver (.object "java/lang/Object")).before #[Value.ref b] s = true := (hts _ (List.mem_append_right _ (List.mem_of_getElem? (i := 324) (by decide +kernel))))
  obtain ⟨comp, cO, kO, o1, o2, o3, o4, o5⟩ := Cond.arrayOver_spec hao
  have hK : va_K (fun k => match k with | 0 => c0 | 1 => c1 | 2 => c2 | 3 => c3 | 4 => c4 | 5 => c5 | 6 => c6 | _ => c7, fun k => match k with | 0 => i0 | 1 => i1 | 2 => i2 | 3 => i3 | 4 => i4 | 5 => i5 | 6 => i6 | _ => i7) cls8 (tysA (fun k => match k with | 100 => cO | 101 => cI | 102 => cJ | _ => cZ)) s := by
    refine ⟨fun k q hq => ?_, fun k q hq => ?_⟩
    · match k, hq with
      | 0, hq => cases hq; exact k0
      | 1, hq => cases hq; exact k1
      | 2, hq => cases hq; exact k2
      | 3, hq => cases hq; exact k3
      | 4, hq => cases hq; exact k4
      | 5, hq => cases hq; exact k5
      | 6, hq => cases hq; exact k6
      | 7, hq => cases hq; exact k7
      | k + 8, hq => simp at hq
    · match k, hq with
      | 0, hq => cases hq; exact ⟨fun n z => ⟨fun k h => (by cases h), kO, o3, comp, o4⟩, kO, comp, o3, o4, o1, o5⟩
      | 1, hq => cases hq; exact ⟨fun n z => ⟨fun k h => (by cases h), kI, nI2, pI, nI3⟩, nI1⟩
      | 2, hq => cases hq; exact ⟨fun n z => ⟨fun k h => (by cases h), kJ, nJ2, pJ, nJ3⟩, nJ1⟩
      | 3, hq => cases hq; exact ⟨fun n z => ⟨fun k h => (by cases h), kZ, nZ2, pZ, nZ3⟩, nZ1⟩
      | k + 4, hq => simp at hq
  have hlen := hfl (.eq (.length (.static "java/util/ArrayList" "DEFAULTCAPACITY_EMPTY_ELEMENTDATA" "[Ljava/lang/Object;")) (.int 0)) (by decide +kernel)
  have harr := hfl (.arrayOf (.static "java/util/ArrayList" "DEFAULTCAPACITY_EMPTY_ELEMENTDATA" "[Ljava/lang/Object;") (.object "java/lang/Object")) (by decide +kernel)
  obtain ⟨e0, he0, hT⟩ := va_Tof (N := 0) (f := fun _ => .null) (A := fun q : Nat => s.heap.size ≤ q) (by decide) harr (va_eqt hlen) (fun j hj => absurd hj (Nat.not_lt_zero j)) hA
  have hz := va_Zof (A := fun q : Nat => s.heap.size ≤ q) (hts _ (List.mem_append_right _ (List.mem_of_getElem? (i := 46) (by decide +kernel)))) (ht _ m_4) he0 hA
  have hU := vx_Zqof (A := fun q : Nat => s.heap.size ≤ q) (hts _ (List.mem_append_right _ (List.mem_of_getElem? (i := 153) (by decide +kernel)))) (ht _ m_6) (hfl (.isRef (.static "java/lang/Throwable" "UNASSIGNED_STACK" "[Ljava/lang/StackTraceElement;")) (by decide +kernel)) hA
  have hN := vx_Zqof (A := fun q : Nat => s.heap.size ≤ q) (hts _ (List.mem_append_right _ (List.mem_of_getElem? (i := 155) (by decide +kernel)))) (ht _ m_6) (hfl (.isRef (.static "java/lang/Throwable" "SUPPRESSED_SENTINEL" "Ljava/util/List;")) (by decide +kernel)) hA
  obtain ⟨mi, hmi⟩ := va_Mi.of (hfl (.isRef (.mirror "[Ljava/lang/Object;")) (by decide +kernel))
  refine ⟨_, _, e0, mi, hf, hx, hb, hr, ht, hown, hlocks, hnm, hml, hex, hK, fun _ h => h, ⟨hU, hN, hz, hT⟩, ?_, ?_, ?_, va_AO.of hao, hmi, ?_⟩
  · intro q hq
    obtain ⟨a, -, -, -, h1, -⟩ := Cond.exactly_spec (hfl _ (st_str q hq))
    exact ⟨a, vk_R.of (hts _ (st_strw q hq)) h1⟩
  · intro q hq
    exact va_Nw.of rfl (hts _ (st_cast q hq))
  · intro y hy
    exact va_Nw.of rfl (hts _ (st_decl y hy))
  · intro q hq
    exact va_Nc.of (hfl _ (st_nc q hq))
