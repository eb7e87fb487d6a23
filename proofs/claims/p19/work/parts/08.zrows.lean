/-! rows of the JDK's natives over the world -/
section BWY
variable {tb : List ExceptionTableEntry} {p : Program} {l : Launch} {e : Env} {R : Room} {s : State} {m : MethodId} {args : Array Value} {below : List Frame} {meth : Method} {c : Code} {H : Heap} {locs : List Loc} {cells slots : Nat} {Qf : State → Prop}
variable {cc : ByteArray} {pc : Nat} {ls : Array Slot} {rest : List Value} {D : va_G} {AC : Nat → ClassId} {A : Nat → Prop} {w : Wd} {e0 mi : Nat} {nL : Nat} {y0 : MethodName} {ret0 : Option FieldType}
/-- System.arraycopy of references -/
theorem bw_copy (C : CxT tb p l s m args meth c D AC e0 mi A y0 cc nL ret0) (hW : HW D cls8 FTc AC A s.heap H locs w) (hls : ls.size = nL) {index : Nat} (hlink : Cond.methodLink y0.cls index arraycopyName ∈ TBL) (hnat : Cond.native arraycopyName ∈ TBL) (hst : Cond.static arraycopyName ∈ TBL) (hini : Cond.initialized "java/lang/System" ∈ TBL) {r0 r1 : Option Nat} {a0 a1 : Nat} (hr0 : r0 = some a0) (hr1 : r1 = some a1) (h0 : bw_is w a0 100) (h1 : bw_is w a1 100)
    {sp dp n : Int32} (g1 : ¬ sp < 0) (g2 : ¬ dp < 0) (g3 : ¬ n < 0) (g4 : sp.toNatClampNeg + n.toNatClampNeg ≤ wN w a0) (g5 : dp.toNatClampNeg + n.toNatClampNeg ≤ wN w a1) (hel : ∀ i : Nat, i < n.toNatClampNeg → bw_el w (wR w a0 (sp.toNatClampNeg + i)))
    (hframes : 1 ≤ R.frames) (hlocals : (rest.map fun v => v.category).sum + (nativeFrameWords "java/lang/System" "arraycopy" 5 + 11) ≤ R.locals) (hdg : decode cc pc = .ok (.invokestatic index, 3))
    (kk : ∀ (H1 : Heap) (locs1 : List Loc), HW D cls8 FTc AC A s.heap H1 locs1 (sRow w a1 (va_cpy (wR w a0) (wR w a1) sp.toNatClampNeg dp.toNatClampNeg n.toNatClampNeg)) → W p l e R s m args below meth c H1 locs1 cells slots Qf (F0 m (pc + 3) ls rest)) : W p l e R s m args below meth c H locs cells slots Qf (F0 m pc ls (.int n :: .int dp :: va_rf r1 :: .int sp :: va_rf r0 :: rest)) := by
  obtain ⟨hl, hx, hb, hr2, ht, hown, hlocks, hnm, hml, hex, hK, hA, hZ, hV⟩ := C
  subst hr0; subst hr1
  obtain ⟨q0, hq0⟩ := va_pl_get (X := []) (f := bw_c FTc AC w) h0.1
  obtain ⟨q1, hq1⟩ := va_pl_get (X := []) (f := bw_c FTc AC w) h1.1
  have hq2 := hq1
  rw [bw_c_a h0.2 (by decide)] at hq0
  rw [bw_c_a h1.2 (by decide)] at hq2
  refine va_copyM hx hb (hml.trans hls.symm) hown (ht _ hlink) (ht _ hnat) (ht _ hst) (ht _ hini) hK hW.1 hW.2.1 hW.2.2 q0 q1 0 0 hq0 hq2 rfl rfl g1 g2 g3 g4 g5 (fun i hi y hy => bw_any hK hV hW (hel i hi y hy)) hframes hlocals hdg (fun H1 locs1 hP hD hS => ?_)
  refine kk H1 locs1 (bw_put (w' := sRow w a1 (va_cpy (wR w a0) (wR w a1) sp.toNatClampNeg dp.toNatClampNeg n.toNatClampNeg)) hW h1.1 hq1 hP hD hS rfl (bw_upc rfl rfl ?_ (fun b hb => ⟨rfl, va_up_ne _ _ hb, rfl⟩)))
  rw [bw_c_a (w := sRow w a1 (va_cpy (wR w a0) (wR w a1) sp.toNatClampNeg dp.toNatClampNeg n.toNatClampNeg)) (kd := 100) h1.2 (by decide)]
  show Sum.inl (AC 100, wN w a1, bw_ar 100 (wI w a1) (va_up (wR w) a1 (va_cpy (wR w a0) (wR w a1) sp.toNatClampNeg dp.toNatClampNeg n.toNatClampNeg) a1) (wJ w a1)) = _
  rw [va_up_self]
  rfl
/-- getClass() of an Object[] -/
theorem bw_getC (C : CxT tb p l s m args meth c D AC e0 mi A y0 cc nL ret0) (hW : HW D cls8 FTc AC A s.heap H locs w) (hls : ls.size = nL) {index : Nat} (hlink : Cond.methodLink y0.cls index ⟨"java/lang/Object", "getClass", "()Ljava/lang/Class;"⟩ ∈ TBL) (hsel : Cond.selects "[Ljava/lang/Object;" ⟨"java/lang/Object", "getClass", "()Ljava/lang/Class;"⟩ ⟨"java/lang/Object", "getClass", "()Ljava/lang/Class;"⟩ ∈ TBL) (hinst : Cond.instanceMethod ⟨"java/lang/Object", "getClass", "()Ljava/lang/Class;"⟩ ∈ TBL) (hnat : Cond.native ⟨"java/lang/Object", "getClass", "()Ljava/lang/Class;"⟩ ∈ TBL) {r : Option Nat} {a : Nat} (hr : r = some a) (ha : bw_is w a 100)
    (hframes : 1 ≤ R.frames) (hlocals : (rest.map fun v => v.category).sum + 14 ≤ R.locals) (hdg : decode cc pc = .ok (.invokevirtual index, 3))
    (kk : W p l e R s m args below meth c H locs cells slots Qf (F0 m (pc + 3) ls (va_rf (some mi) :: rest))) : W p l e R s m args below meth c H locs cells slots Qf (F0 m pc ls (va_rf r :: rest)) := by
  obtain ⟨hl, hx, hb, hr2, ht, hown, hlocks, hnm, hml, hex, hK, hA, hZ, hV⟩ := C
  subst hr
  obtain ⟨q0, hq0⟩ := va_pl_get (X := []) (f := bw_c FTc AC w) ha.1
  rw [bw_c_a ha.2 (by decide)] at hq0
  have hcell : H[a]? = some (vp_cell (AC 100) (wN w a, bw_ar 100 (wI w a) (wR w a) (wJ w a))) := hW.1 q0 _ hq0
  exact va_getC hx hb (hml.trans hls.symm) hown (ht _ hlink) ((hV.2.2.1 ⟨"java/lang/Object", "getClass", "()Ljava/lang/Class;"⟩ (by decide +kernel)).use rfl) (ht _ hsel) (ht _ hinst) (ht _ hnat) hV.2.2.2.2.1 ⟨_, hcell, rfl, bw_ra hK⟩ hframes hlocals hdg kk
theorem bw_ldcM (C : CxT tb p l s m args meth c D AC e0 mi A y0 cc nL ret0) {index : Nat} (hlink : Cond.classLink y0.cls index "[Ljava/lang/Object;" ∈ TBL) (hdg : decode cc pc = .ok (.ldc index, 2))
    (kk : W p l e R s m args below meth c H locs cells slots Qf (F0 m (pc + 2) ls (va_rf (some mi) :: rest))) : W p l e R s m args below meth c H locs cells slots Qf (F0 m pc ls rest) := by
  obtain ⟨hl, hx, hb, hr2, ht, hown, hlocks, hnm, hml, hex, hK, hA, hZ, hV⟩ := C
  exact va_ldcM hx hb hown (ht _ hlink) hV.2.2.2.2.1 hdg kk
end BWY
