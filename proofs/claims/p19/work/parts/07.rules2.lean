/-! ROWS OF ARRAYS over the world -/
section BWA
variable {tb : List ExceptionTableEntry} {p : Program} {l : Launch} {e : Env} {R : Room} {s : State} {m : MethodId} {args : Array Value} {below : List Frame} {meth : Method} {c : Code} {H : Heap} {locs : List Loc} {cells slots : Nat} {Qf : State → Prop}
variable {cc : ByteArray} {pc : Nat} {ls : Array Slot} {rest : List Value} {D : va_G} {AC : Nat → ClassId} {A : Nat → Prop} {w : Wd} {e0 mi : Nat} {nL : Nat} {y0 : MethodName} {ret0 : Option FieldType}
theorem bw_alen (C : CxT tb p l s m args meth c D AC e0 mi A y0 cc nL ret0) (hW : HW D cls8 FTc AC A s.heap H locs w) {r : Option Nat} {a kd t0 : Nat} {ty : FieldType} (hr : r = some a) (ha : bw_is w a kd) (hk : ¬ kd < 100) (ht0 : (tysA AC)[t0]? = some (AC kd, ty)) (hdg : decode cc pc = .ok (.arraylength, 1))
    (kk : W p l e R s m args below meth c H locs cells slots Qf (F0 m (pc + 1) ls (.int (nI (wN w a)) :: rest))) : W p l e R s m args below meth c H locs cells slots Qf (F0 m pc ls (va_rf r :: rest)) := by
  obtain ⟨hl, hx, hb, hr0, ht, hown, hlocks, hnm, hml, hex, hK, hA, hZ, hV⟩ := C
  subst hr
  obtain ⟨q0, hq⟩ := va_pl_get (X := []) (f := bw_c FTc AC w) ha.1
  rw [bw_c_a ha.2 hk] at hq
  exact va_alen hx hb hK hW.1 q0 t0 hq ht0 rfl hdg kk
theorem bw_iald (C : CxT tb p l s m args meth c D AC e0 mi A y0 cc nL ret0) (hW : HW D cls8 FTc AC A s.heap H locs w) {r : Option Nat} {a : Nat} {i : Int32} (hr : r = some a) (ha : bw_is w a 101) (hin : vp_in i (wN w a)) (hdg : decode cc pc = .ok (.iaload, 1))
    (kk : W p l e R s m args below meth c H locs cells slots Qf (F0 m (pc + 1) ls (.int (wI w a i.toNatClampNeg) :: rest))) : W p l e R s m args below meth c H locs cells slots Qf (F0 m pc ls (.int i :: va_rf r :: rest)) := by
  obtain ⟨hl, hx, hb, hr0, ht, hown, hlocks, hnm, hml, hex, hK, hA, hZ, hV⟩ := C
  subst hr
  obtain ⟨q0, hq⟩ := va_pl_get (X := []) (f := bw_c FTc AC w) ha.1
  rw [bw_c_a ha.2 (by decide)] at hq
  exact va_iald hx hb hK hW.1 q0 1 hq rfl hin hdg kk
theorem bw_zald (C : CxT tb p l s m args meth c D AC e0 mi A y0 cc nL ret0) (hW : HW D cls8 FTc AC A s.heap H locs w) {r : Option Nat} {a : Nat} {i : Int32} (hr : r = some a) (ha : bw_is w a 103) (hin : vp_in i (wN w a)) (hdg : decode cc pc = .ok (.baload, 1))
    (kk : W p l e R s m args below meth c H locs cells slots Qf (F0 m (pc + 1) ls (.int (wI w a i.toNatClampNeg) :: rest))) : W p l e R s m args below meth c H locs cells slots Qf (F0 m pc ls (.int i :: va_rf r :: rest)) := by
  obtain ⟨hl, hx, hb, hr0, ht, hown, hlocks, hnm, hml, hex, hK, hA, hZ, hV⟩ := C
  subst hr
  obtain ⟨q0, hq⟩ := va_pl_get (X := []) (f := bw_c FTc AC w) ha.1
  rw [bw_c_a ha.2 (by decide)] at hq
  exact va_zald hx hb hK hW.1 q0 3 hq rfl hin hdg kk
theorem bw_lald (C : CxT tb p l s m args meth c D AC e0 mi A y0 cc nL ret0) (hW : HW D cls8 FTc AC A s.heap H locs w) {r : Option Nat} {a : Nat} {i : Int32} (hr : r = some a) (ha : bw_is w a 102) (hin : vp_in i (wN w a)) (hdg : decode cc pc = .ok (.laload, 1))
    (kk : W p l e R s m args below meth c H locs cells slots Qf (F0 m (pc + 1) ls (.long (wJ w a i.toNatClampNeg) :: rest))) : W p l e R s m args below meth c H locs cells slots Qf (F0 m pc ls (.int i :: va_rf r :: rest)) := by
  obtain ⟨hl, hx, hb, hr0, ht, hown, hlocks, hnm, hml, hex, hK, hA, hZ, hV⟩ := C
  subst hr
  obtain ⟨q0, hq⟩ := va_pl_get (X := []) (f := bw_c FTc AC w) ha.1
  rw [bw_c_a ha.2 (by decide)] at hq
  exact va_lald hx hb hK hW.1 q0 2 hq rfl hin hdg kk
theorem bw_aald (C : CxT tb p l s m args meth c D AC e0 mi A y0 cc nL ret0) (hW : HW D cls8 FTc AC A s.heap H locs w) {r : Option Nat} {a : Nat} {i : Int32} (hr : r = some a) (ha : bw_is w a 100) (hin : vp_in i (wN w a)) (hdg : decode cc pc = .ok (.aaload, 1))
    (kk : W p l e R s m args below meth c H locs cells slots Qf (F0 m (pc + 1) ls (va_rf (wR w a i.toNatClampNeg) :: rest))) : W p l e R s m args below meth c H locs cells slots Qf (F0 m pc ls (.int i :: va_rf r :: rest)) := by
  obtain ⟨hl, hx, hb, hr0, ht, hown, hlocks, hnm, hml, hex, hK, hA, hZ, hV⟩ := C
  subst hr
  obtain ⟨q0, hq⟩ := va_pl_get (X := []) (f := bw_c FTc AC w) ha.1
  rw [bw_c_a ha.2 (by decide)] at hq
  exact va_aldq hx hb hK hW.1 q0 0 hq rfl hin hdg kk
theorem bw_iast (C : CxT tb p l s m args meth c D AC e0 mi A y0 cc nL ret0) (hW : HW D cls8 FTc AC A s.heap H locs w) {r : Option Nat} {a : Nat} {i x : Int32} (hr : r = some a) (ha : bw_is w a 101) (hin : vp_in i (wN w a)) (hdg : decode cc pc = .ok (.iastore, 1))
    (kk : ∀ (H1 : Heap) (locs1 : List Loc), HW D cls8 FTc AC A s.heap H1 locs1 (sI w a i.toNatClampNeg x) → W p l e R s m args below meth c H1 locs1 cells slots Qf (F0 m (pc + 1) ls rest)) : W p l e R s m args below meth c H locs cells slots Qf (F0 m pc ls (.int x :: .int i :: va_rf r :: rest)) := by
  obtain ⟨hl, hx, hb, hr0, ht, hown, hlocks, hnm, hml, hex, hK, hA, hZ, hV⟩ := C
  subst hr
  obtain ⟨q0, hq⟩ := va_pl_get (X := []) (f := bw_c FTc AC w) ha.1
  have hq2 := hq
  rw [bw_c_a ha.2 (by decide)] at hq2
  refine va_iast hx hb hK hW.1 hW.2.1 hW.2.2 q0 1 hq2 rfl hin hdg (fun H1 locs1 hP hD hS => ?_)
  refine kk H1 locs1 (bw_put (w' := sI w a i.toNatClampNeg x) hW ha.1 hq hP hD hS rfl (bw_upc rfl rfl ?_ (fun b hb => ⟨va_up_ne _ _ hb, rfl, rfl⟩)))
  rw [bw_c_a (w := sI w a i.toNatClampNeg x) (kd := 101) ha.2 (by decide)]
  show Sum.inl (AC 101, wN w a, bw_ar 101 (va_up (wI w) a (va_up (wI w a) i.toNatClampNeg x) a) (wR w a) (wJ w a)) = _
  rw [va_up_self]
  rfl
theorem bw_zast (C : CxT tb p l s m args meth c D AC e0 mi A y0 cc nL ret0) (hW : HW D cls8 FTc AC A s.heap H locs w) {r : Option Nat} {a : Nat} {i x : Int32} (hr : r = some a) (ha : bw_is w a 103) (hin : vp_in i (wN w a)) (hdg : decode cc pc = .ok (.bastore, 1))
    (kk : ∀ (H1 : Heap) (locs1 : List Loc), HW D cls8 FTc AC A s.heap H1 locs1 (sI w a i.toNatClampNeg (vp_nar .boolean x)) → W p l e R s m args below meth c H1 locs1 cells slots Qf (F0 m (pc + 1) ls rest)) : W p l e R s m args below meth c H locs cells slots Qf (F0 m pc ls (.int x :: .int i :: va_rf r :: rest)) := by
  obtain ⟨hl, hx, hb, hr0, ht, hown, hlocks, hnm, hml, hex, hK, hA, hZ, hV⟩ := C
  subst hr
  obtain ⟨q0, hq⟩ := va_pl_get (X := []) (f := bw_c FTc AC w) ha.1
  have hq2 := hq
  rw [bw_c_a ha.2 (by decide)] at hq2
  refine va_zast hx hb hK hW.1 hW.2.1 hW.2.2 q0 3 hq2 rfl hin hdg (fun H1 locs1 hP hD hS => ?_)
  refine kk H1 locs1 (bw_put (w' := sI w a i.toNatClampNeg (vp_nar .boolean x)) hW ha.1 hq hP hD hS rfl (bw_upc rfl rfl ?_ (fun b hb => ⟨va_up_ne _ _ hb, rfl, rfl⟩)))
  rw [bw_c_a (w := sI w a i.toNatClampNeg (vp_nar .boolean x)) (kd := 103) ha.2 (by decide)]
  show Sum.inl (AC 103, wN w a, bw_ar 103 (va_up (wI w) a (va_up (wI w a) i.toNatClampNeg (vp_nar .boolean x)) a) (wR w a) (wJ w a)) = _
  rw [va_up_self]
  rfl
theorem bw_last (C : CxT tb p l s m args meth c D AC e0 mi A y0 cc nL ret0) (hW : HW D cls8 FTc AC A s.heap H locs w) {r : Option Nat} {a : Nat} {i : Int32} {x : Int64} (hr : r = some a) (ha : bw_is w a 102) (hin : vp_in i (wN w a)) (hdg : decode cc pc = .ok (.lastore, 1))
    (kk : ∀ (H1 : Heap) (locs1 : List Loc), HW D cls8 FTc AC A s.heap H1 locs1 (sJ w a i.toNatClampNeg x) → W p l e R s m args below meth c H1 locs1 cells slots Qf (F0 m (pc + 1) ls rest)) : W p l e R s m args below meth c H locs cells slots Qf (F0 m pc ls (.long x :: .int i :: va_rf r :: rest)) := by
  obtain ⟨hl, hx, hb, hr0, ht, hown, hlocks, hnm, hml, hex, hK, hA, hZ, hV⟩ := C
  subst hr
  obtain ⟨q0, hq⟩ := va_pl_get (X := []) (f := bw_c FTc AC w) ha.1
  have hq2 := hq
  rw [bw_c_a ha.2 (by decide)] at hq2
  refine va_last hx hb hK hW.1 hW.2.1 hW.2.2 q0 2 hq2 rfl hin hdg (fun H1 locs1 hP hD hS => ?_)
  refine kk H1 locs1 (bw_put (w' := sJ w a i.toNatClampNeg x) hW ha.1 hq hP hD hS rfl (bw_upc rfl rfl ?_ (fun b hb => ⟨rfl, rfl, va_up_ne _ _ hb⟩)))
  rw [bw_c_a (w := sJ w a i.toNatClampNeg x) (kd := 102) ha.2 (by decide)]
  show Sum.inl (AC 102, wN w a, bw_ar 102 (wI w a) (wR w a) (va_up (wJ w) a (va_up (wJ w a) i.toNatClampNeg x) a)) = _
  rw [va_up_self]
  rfl
/-- a reference into an Object[]: null, or an object of one of our classes -/
theorem bw_aast (C : CxT tb p l s m args meth c D AC e0 mi A y0 cc nL ret0) (hW : HW D cls8 FTc AC A s.heap H locs w) {r x : Option Nat} {a : Nat} {i : Int32} (hr : r = some a) (ha : bw_is w a 100) (hin : vp_in i (wN w a)) (hxo : ∀ b, x = some b → ∃ cn, bw_is w b cn ∧ cn < 6 ∧ cn ≠ 5) (hdg : decode cc pc = .ok (.aastore, 1))
    (kk : ∀ (H1 : Heap) (locs1 : List Loc), HW D cls8 FTc AC A s.heap H1 locs1 (sR w a i.toNatClampNeg x) → W p l e R s m args below meth c H1 locs1 cells slots Qf (F0 m (pc + 1) ls rest)) : W p l e R s m args below meth c H locs cells slots Qf (F0 m pc ls (va_rf x :: .int i :: va_rf r :: rest)) := by
  obtain ⟨hl, hx, hb, hr0, ht, hown, hlocks, hnm, hml, hex, hK, hA, hZ, hV⟩ := C
  subst hr
  obtain ⟨q0, hq⟩ := va_pl_get (X := []) (f := bw_c FTc AC w) ha.1
  have hq2 := hq
  rw [bw_c_a ha.2 (by decide)] at hq2
  have fin : ∀ (H1 : Heap) (locs1 : List Loc), va_P D cls8 ((va_pl (wL w) (bw_c FTc AC w)).set q0 (a, .inl (AC 100, wN w a, .inr (.inr (.inr (.inr (va_up (wR w a) i.toNatClampNeg x))))))) H1 → va_D A ((va_pl (wL w) (bw_c FTc AC w)).set q0 (a, .inl (AC 100, wN w a, .inr (.inr (.inr (.inr (va_up (wR w a) i.toNatClampNeg x))))))) → va_S A s.heap H1 locs1 → W p l e R s m args below meth c H1 locs1 cells slots Qf (F0 m (pc + 1) ls rest) := by
    intro H1 locs1 hP hD hS
    refine kk H1 locs1 (bw_put (w' := sR w a i.toNatClampNeg x) hW ha.1 hq hP hD hS rfl (bw_upc rfl rfl ?_ (fun b hb => ⟨rfl, va_up_ne _ _ hb, rfl⟩)))
    rw [bw_c_a (w := sR w a i.toNatClampNeg x) (kd := 100) ha.2 (by decide)]
    show Sum.inl (AC 100, wN w a, bw_ar 100 (wI w a) (va_up (wR w) a (va_up (wR w a) i.toNatClampNeg x) a) (wJ w a)) = _
    rw [va_up_self]
    rfl
  cases x with
  | none => exact va_astqN hx hb hK hW.1 hW.2.1 hW.2.2 q0 0 hq2 rfl hin hdg fin
  | some b =>
    obtain ⟨cn, hbn, hlt, h5⟩ := hxo b rfl
    obtain ⟨qk, hqk⟩ := va_pl_get (X := []) (f := bw_c FTc AC w) hbn.1
    rw [bw_c_o hbn.2 (by omega)] at hqk
    match cn, hlt, h5, hqk with
    | 0, _, _, hqk => exact va_astqO hx hb hK hW.1 hW.2.1 hW.2.2 q0 0 qk 0 hq2 rfl (hV.2.1 ("BeltRows$Belt", "java/lang/Object") (by decide +kernel)) hqk rfl hin hdg fin
    | 1, _, _, hqk => exact va_astqO hx hb hK hW.1 hW.2.1 hW.2.2 q0 0 qk 1 hq2 rfl (hV.2.1 ("BeltRows$Edge", "java/lang/Object") (by decide +kernel)) hqk rfl hin hdg fin
    | 2, _, _, hqk => exact va_astqO hx hb hK hW.1 hW.2.1 hW.2.2 q0 0 qk 2 hq2 rfl (hV.2.1 ("BeltRows$Item", "java/lang/Object") (by decide +kernel)) hqk rfl hin hdg fin
    | 3, _, _, hqk => exact va_astqO hx hb hK hW.1 hW.2.1 hW.2.2 q0 0 qk 3 hq2 rfl (hV.2.1 ("BeltRows$Scanner", "java/lang/Object") (by decide +kernel)) hqk rfl hin hdg fin
    | 4, _, _, hqk => exact va_astqO hx hb hK hW.1 hW.2.1 hW.2.2 q0 0 qk 4 hq2 rfl (hV.2.1 ("BeltRows$Way", "java/lang/Object") (by decide +kernel)) hqk rfl hin hdg fin
    | 5, _, h5, _ => exact absurd rfl h5
/-- new int[n], long[n], boolean[n] -/
theorem bw_newI (C : CxT tb p l s m args meth c D AC e0 mi A y0 cc nL ret0) (hW : HW D cls8 FTc AC A s.heap H locs w) (harr : Cond.arrayClass .int ∈ TBL) {n : Int32} (hn : ¬ n < 0) (hbytes : n.toNatClampNeg * 4 ≤ 536870912) (hcells : cells + 1 ≤ R.cells) (hslots : slots + n.toNatClampNeg ≤ R.slots) (hdg : decode cc pc = .ok (.newarray .int, 2))
    (kk : ∀ (q : Nat) (H1 : Heap), q ∉ wL w → HW D cls8 FTc AC A s.heap H1 locs (bw_new w q 101 n.toNatClampNeg) → W p l e R s m args below meth c H1 locs (cells + 1) (slots + n.toNatClampNeg) Qf (F0 m (pc + 2) ls (va_rf (some q) :: rest))) : W p l e R s m args below meth c H locs cells slots Qf (F0 m pc ls (.int n :: rest)) := by
  obtain ⟨hl, hx, hb, hr0, ht, hown, hlocks, hnm, hml, hex, hK, hA, hZ, hV⟩ := C
  refine va_newa (atype := .int) (ty := .int) (a0 := (n.toNatClampNeg, .inl (fun _ => 0))) hx hb (ht _ harr) rfl hK hW.1 hW.2.1 hW.2.2 hA (fun _ => rfl) hn rfl hbytes hcells hslots hdg (fun q cA H1 hK1 hP hD hS => ?_)
  have e1 : s.vm.findClass ("[" ++ (FieldType.int).toString) = some cA := (hK1.2 4 _ rfl).2
  have e2 : s.vm.findClass ("[" ++ (FieldType.int).toString) = some (AC 101) := (hK.2 1 _ rfl).2
  obtain rfl : cA = AC 101 := Option.some.inj (e1.symm.trans e2)
  have h := bw_push (w := w) (kd := 101) (n := n.toNatClampNeg) hW hP hD hS (by
    rw [bw_c_a (w := bw_new w q 101 n.toNatClampNeg) (kd := 101) (va_up_self _ _ _) (by decide)]
    show Sum.inl (AC 101, va_up (wN w) q n.toNatClampNeg q, bw_ar 101 (va_up (wI w) q (fun _ => 0) q) (va_up (wR w) q (fun _ => none) q) (va_up (wJ w) q (fun _ => 0) q)) = _
    rw [va_up_self, va_up_self, va_up_self, va_up_self]
    rfl)
  exact kk q H1 h.1 h.2
theorem bw_newZ (C : CxT tb p l s m args meth c D AC e0 mi A y0 cc nL ret0) (hW : HW D cls8 FTc AC A s.heap H locs w) (harr : Cond.arrayClass .boolean ∈ TBL) {n : Int32} (hn : ¬ n < 0) (hbytes : n.toNatClampNeg * 1 ≤ 536870912) (hcells : cells + 1 ≤ R.cells) (hslots : slots + n.toNatClampNeg ≤ R.slots) (hdg : decode cc pc = .ok (.newarray .boolean, 2))
    (kk : ∀ (q : Nat) (H1 : Heap), q ∉ wL w → HW D cls8 FTc AC A s.heap H1 locs (bw_new w q 103 n.toNatClampNeg) → W p l e R s m args below meth c H1 locs (cells + 1) (slots + n.toNatClampNeg) Qf (F0 m (pc + 2) ls (va_rf (some q) :: rest))) : W p l e R s m args below meth c H locs cells slots Qf (F0 m pc ls (.int n :: rest)) := by
  obtain ⟨hl, hx, hb, hr0, ht, hown, hlocks, hnm, hml, hex, hK, hA, hZ, hV⟩ := C
  refine va_newa (atype := .boolean) (ty := .boolean) (a0 := (n.toNatClampNeg, .inl (fun _ => 0))) hx hb (ht _ harr) rfl hK hW.1 hW.2.1 hW.2.2 hA (fun _ => rfl) hn rfl hbytes hcells hslots hdg (fun q cA H1 hK1 hP hD hS => ?_)
  have e1 : s.vm.findClass ("[" ++ (FieldType.boolean).toString) = some cA := (hK1.2 4 _ rfl).2
  have e2 : s.vm.findClass ("[" ++ (FieldType.boolean).toString) = some (AC 103) := (hK.2 3 _ rfl).2
  obtain rfl : cA = AC 103 := Option.some.inj (e1.symm.trans e2)
  have h := bw_push (w := w) (kd := 103) (n := n.toNatClampNeg) hW hP hD hS (by
    rw [bw_c_a (w := bw_new w q 103 n.toNatClampNeg) (kd := 103) (va_up_self _ _ _) (by decide)]
    show Sum.inl (AC 103, va_up (wN w) q n.toNatClampNeg q, bw_ar 103 (va_up (wI w) q (fun _ => 0) q) (va_up (wR w) q (fun _ => none) q) (va_up (wJ w) q (fun _ => 0) q)) = _
    rw [va_up_self, va_up_self, va_up_self, va_up_self]
    rfl)
  exact kk q H1 h.1 h.2
theorem bw_newJ (C : CxT tb p l s m args meth c D AC e0 mi A y0 cc nL ret0) (hW : HW D cls8 FTc AC A s.heap H locs w) (harr : Cond.arrayClass .long ∈ TBL) {n : Int32} (hn : ¬ n < 0) (hbytes : n.toNatClampNeg * 8 ≤ 536870912) (hcells : cells + 1 ≤ R.cells) (hslots : slots + n.toNatClampNeg ≤ R.slots) (hdg : decode cc pc = .ok (.newarray .long, 2))
    (kk : ∀ (q : Nat) (H1 : Heap), q ∉ wL w → HW D cls8 FTc AC A s.heap H1 locs (bw_new w q 102 n.toNatClampNeg) → W p l e R s m args below meth c H1 locs (cells + 1) (slots + n.toNatClampNeg) Qf (F0 m (pc + 2) ls (va_rf (some q) :: rest))) : W p l e R s m args below meth c H locs cells slots Qf (F0 m pc ls (.int n :: rest)) := by
  obtain ⟨hl, hx, hb, hr0, ht, hown, hlocks, hnm, hml, hex, hK, hA, hZ, hV⟩ := C
  refine va_newa (atype := .long) (ty := .long) (a0 := (n.toNatClampNeg, .inr (.inl (fun _ => 0)))) hx hb (ht _ harr) rfl hK hW.1 hW.2.1 hW.2.2 hA (fun _ => rfl) hn rfl hbytes hcells hslots hdg (fun q cA H1 hK1 hP hD hS => ?_)
  have e1 : s.vm.findClass ("[" ++ (FieldType.long).toString) = some cA := (hK1.2 4 _ rfl).2
  have e2 : s.vm.findClass ("[" ++ (FieldType.long).toString) = some (AC 102) := (hK.2 2 _ rfl).2
  obtain rfl : cA = AC 102 := Option.some.inj (e1.symm.trans e2)
  have h := bw_push (w := w) (kd := 102) (n := n.toNatClampNeg) hW hP hD hS (by
    rw [bw_c_a (w := bw_new w q 102 n.toNatClampNeg) (kd := 102) (va_up_self _ _ _) (by decide)]
    show Sum.inl (AC 102, va_up (wN w) q n.toNatClampNeg q, bw_ar 102 (va_up (wI w) q (fun _ => 0) q) (va_up (wR w) q (fun _ => none) q) (va_up (wJ w) q (fun _ => 0) q)) = _
    rw [va_up_self, va_up_self, va_up_self, va_up_self]
    rfl)
  exact kk q H1 h.1 h.2
/-- (X) r, where r is null or an object of just that class -/
theorem bw_cast (C : CxT tb p l s m args meth c D AC e0 mi A y0 cc nL ret0) (hW : HW D cls8 FTc AC A s.heap H locs w) {nm : String} {index cn N : Nat} {T : u_T} {r : Option Nat} (hlink : Cond.classLink y0.cls index nm ∈ TBL) (hcn : cls8[cn]? = some (nm, T, N)) (h100 : cn < 100) (hca : (nm, nm) ∈ CASTS) (hr : ∀ a, r = some a → bw_is w a cn) (hdg : decode cc pc = .ok (.checkcast index, 3))
    (kk : W p l e R s m args below meth c H locs cells slots Qf (F0 m (pc + 3) ls (va_rf r :: rest))) : W p l e R s m args below meth c H locs cells slots Qf (F0 m pc ls (va_rf r :: rest)) := by
  obtain ⟨hl, hx, hb, hr0, ht, hown, hlocks, hnm, hml, hex, hK, hA, hZ, hV⟩ := C
  cases r with
  | none => exact lv_castN hx hb hdg kk
  | some a =>
    have ha := hr a rfl
    obtain ⟨q0, hq⟩ := va_pl_get (X := []) (f := bw_c FTc AC w) ha.1
    rw [bw_c_o ha.2 h100] at hq
    exact va_castY hx hb hown (ht _ hlink) (hV.2.1 (nm, nm) hca) (va_recv hK hW.1 hcn hq) hdg kk
end BWA
