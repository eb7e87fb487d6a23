/-! WHAT IS CARRIED, THE CONTRACT, CALLS AND ENDS -/
def STRS : List (String × Nat × String) := [("BeltRows", 225, "a number is outside its range"), ("BeltRows", 51, "no room for another belt"), ("BeltRows", 229, "no such belt"), ("BeltRows", 70, "the next belt did not come later"), ("BeltRows", 97, "no room for another scanner"), ("BeltRows", 104, "no room for another item"), ("BeltRows", 231, "no such item"), ("BeltRows", 227, "the item is on no belt"), ("BeltRows", 137, "no such edge"), ("BeltRows", 158, "nothing of an edge has this number"), ("BeltRows", 165, "the item would be before the start"), ("BeltRows", 175, "the item behind would be too near"), ("BeltRows", 181, "the belt runs"), ("BeltRows", 192, "these are not two items of one belt"), ("BeltRows", 205, "nothing of an item has this number"), ("BeltRows", 213, "nothing of a belt has this number"), ("BeltRows", 215, "not so many items went out"), ("BeltRows", 219, "/ by zero")]
def CASTS : List (String × String) := [("java/lang/IllegalArgumentException", "java/lang/IllegalArgumentException"), ("java/lang/UnsupportedOperationException", "java/lang/UnsupportedOperationException"), ("java/util/NoSuchElementException", "java/util/NoSuchElementException"), ("java/lang/IllegalStateException", "java/lang/IllegalStateException"), ("java/lang/ArithmeticException", "java/lang/ArithmeticException"), ("BeltRows$Belt", "BeltRows$Belt"), ("BeltRows$Item", "BeltRows$Item"), ("BeltRows$Edge", "BeltRows$Edge"), ("BeltRows$Scanner", "BeltRows$Scanner"), ("BeltRows", "java/lang/Object"), ("BeltRowsModel", "java/lang/Object"), ("BeltRows$Belt", "java/lang/Object"), ("BeltRows$Way", "java/lang/Object"), ("BeltRows$Scanner", "java/lang/Object"), ("BeltRows$Item", "java/lang/Object"), ("BeltRows$Edge", "java/lang/Object"), ("java/lang/String", "java/lang/Object")]
def DECLS : List MethodName := [⟨"java/lang/RuntimeException", "<init>", "()V"⟩, ⟨"java/lang/RuntimeException", "<init>", "(Ljava/lang/String;)V"⟩, ⟨"java/lang/Exception", "<init>", "()V"⟩, ⟨"java/lang/Exception", "<init>", "(Ljava/lang/String;)V"⟩, ⟨"java/lang/Throwable", "<init>", "()V"⟩, ⟨"java/lang/Throwable", "<init>", "(Ljava/lang/String;)V"⟩, ⟨"java/lang/Object", "getClass", "()Ljava/lang/Class;"⟩]
def NCS : List (String × String) := [("BeltRows", "java/lang/IllegalArgumentException"), ("java/util/ArrayList", "java/lang/IllegalArgumentException"), ("BeltRowsModel", "java/lang/IllegalArgumentException"), ("java/lang/UnsupportedOperationException", "java/lang/IllegalArgumentException"), ("BeltRows$Belt", "java/lang/IllegalArgumentException"), ("BeltRows$Way", "java/lang/IllegalArgumentException"), ("java/util/NoSuchElementException", "java/lang/IllegalArgumentException"), ("BeltRows$Scanner", "java/lang/IllegalArgumentException"), ("BeltRows$Item", "java/lang/IllegalArgumentException"), ("java/lang/IllegalStateException", "java/lang/IllegalArgumentException"), ("BeltRows$Edge", "java/lang/IllegalArgumentException"), ("java/lang/ArithmeticException", "java/lang/IllegalArgumentException"), ("BeltRows", "java/lang/UnsupportedOperationException"), ("java/util/ArrayList", "java/lang/UnsupportedOperationException"), ("BeltRowsModel", "java/lang/UnsupportedOperationException"), ("java/lang/IllegalArgumentException", "java/lang/UnsupportedOperationException"), ("BeltRows$Belt", "java/lang/UnsupportedOperationException"), ("BeltRows$Way", "java/lang/UnsupportedOperationException"), ("java/util/NoSuchElementException", "java/lang/UnsupportedOperationException"), ("BeltRows$Scanner", "java/lang/UnsupportedOperationException"), ("BeltRows$Item", "java/lang/UnsupportedOperationException"), ("java/lang/IllegalStateException", "java/lang/UnsupportedOperationException"), ("BeltRows$Edge", "java/lang/UnsupportedOperationException"), ("java/lang/ArithmeticException", "java/lang/UnsupportedOperationException"), ("BeltRows", "java/util/NoSuchElementException"), ("java/util/ArrayList", "java/util/NoSuchElementException"), ("BeltRowsModel", "java/util/NoSuchElementException"), ("java/lang/IllegalArgumentException", "java/util/NoSuchElementException"), ("java/lang/UnsupportedOperationException", "java/util/NoSuchElementException"), ("BeltRows$Belt", "java/util/NoSuchElementException"), ("BeltRows$Way", "java/util/NoSuchElementException"), ("BeltRows$Scanner", "java/util/NoSuchElementException"), ("BeltRows$Item", "java/util/NoSuchElementException"), ("java/lang/IllegalStateException", "java/util/NoSuchElementException"), ("BeltRows$Edge", "java/util/NoSuchElementException"), ("java/lang/ArithmeticException", "java/util/NoSuchElementException"), ("BeltRows", "java/lang/IllegalStateException"), ("java/util/ArrayList", "java/lang/IllegalStateException"), ("BeltRowsModel", "java/lang/IllegalStateException"), ("java/lang/IllegalArgumentException", "java/lang/IllegalStateException"), ("java/lang/UnsupportedOperationException", "java/lang/IllegalStateException"), ("BeltRows$Belt", "java/lang/IllegalStateException"), ("BeltRows$Way", "java/lang/IllegalStateException"), ("java/util/NoSuchElementException", "java/lang/IllegalStateException"), ("BeltRows$Scanner", "java/lang/IllegalStateException"), ("BeltRows$Item", "java/lang/IllegalStateException"), ("BeltRows$Edge", "java/lang/IllegalStateException"), ("java/lang/ArithmeticException", "java/lang/IllegalStateException"), ("BeltRows", "java/lang/ArithmeticException"), ("java/util/ArrayList", "java/lang/ArithmeticException"), ("BeltRowsModel", "java/lang/ArithmeticException"), ("java/lang/IllegalArgumentException", "java/lang/ArithmeticException"), ("java/lang/UnsupportedOperationException", "java/lang/ArithmeticException"), ("BeltRows$Belt", "java/lang/ArithmeticException"), ("BeltRows$Way", "java/lang/ArithmeticException"), ("java/util/NoSuchElementException", "java/lang/ArithmeticException"), ("BeltRows$Scanner", "java/lang/ArithmeticException"), ("BeltRows$Item", "java/lang/ArithmeticException"), ("java/lang/IllegalStateException", "java/lang/ArithmeticException"), ("BeltRows$Edge", "java/lang/ArithmeticException")]
/-- words that don't keep, by the tables alone -/
def SV (mi : Nat) (U : State) : Prop := (∀ q ∈ STRS, ∃ sa : Nat, vk_R q.1 q.2.1 q.2.2 sa U) ∧ (∀ q ∈ CASTS, va_Nw (.castable q.1 q.2) U) ∧ (∀ y ∈ DECLS, va_Nw (.declares y) U) ∧ va_AO "java/lang/Object" U ∧ va_Mi "[Ljava/lang/Object;" mi U ∧ ∀ q ∈ NCS, va_Nc q.1 q.2 U
theorem SV.warm {mi : Nat} {s U : State} (hW : s.WarmedH U.vm) (h : SV mi s) : SV mi U :=
  ⟨fun q hq => by obtain ⟨sa, h1⟩ := h.1 q hq; exact ⟨sa, h1.warm hW⟩, fun q hq => (h.2.1 q hq).warmC hW, fun y hy => (h.2.2.1 y hy).warmD hW, h.2.2.2.1.moved hW.alike, h.2.2.2.2.1.moved hW.alike, fun q hq => (h.2.2.2.2.2 q hq).moved hW.alike⟩
theorem SV.same {mi : Nat} {s U : State} (hv : U.vm = s.vm) (h : SV mi s) : SV mi U :=
  ⟨fun q hq => by obtain ⟨sa, h1⟩ := h.1 q hq; exact ⟨sa, h1.same hv⟩, fun q hq => (h.2.1 q hq).same rfl hv.symm, fun y hy => (h.2.2.1 y hy).same rfl hv.symm, h.2.2.2.1.moved (by rw [hv]; exact Vm.Alike.refl _), h.2.2.2.2.1.moved (by rw [hv]; exact Vm.Alike.refl _), fun q hq => (h.2.2.2.2.2 q hq).moved (by rw [hv]; exact Vm.Alike.refl _)⟩
/-- statics that nobody writes, and the empty array of ArrayList -/
def SH (e0 : Nat) (A : Nat → Prop) (U : State) (H : Heap) : Prop := vx_Zq Bundle.tN "UNASSIGNED_STACK" Bundle.steD A U H ∧ vx_Zq Bundle.tN "SUPPRESSED_SENTINEL" Bundle.listD A U H ∧ va_Z "java/util/ArrayList" "DEFAULTCAPACITY_EMPTY_ELEMENTDATA" "[Ljava/lang/Object;" (.ref e0) A U H ∧ va_T (.object "java/lang/Object") e0 0 (fun _ => .null) A U H
theorem SH.moved {e0 : Nat} {A : Nat → Prop} {u U : State} {H : Heap} (hvm : u.vm.Alike U.vm) (h : SH e0 A u H) : SH e0 A U H := ⟨h.1.moved hvm, h.2.1.moved hvm, h.2.2.1.moved hvm, h.2.2.2.moved hvm⟩
theorem SH.kept {e0 : Nat} {A : Nat → Prop} {U : State} {H H1 : Heap} (hq : ∀ a : Nat, a < H.size → ¬ A a → H1[a]? = H[a]?) (h : SH e0 A U H) : SH e0 A U H1 := ⟨h.1.kept hq, h.2.1.kept hq, h.2.2.1.kept hq, h.2.2.2.kept hq⟩
theorem SH.narrow {e0 : Nat} {A B : Nat → Prop} {U : State} {H : Heap} (hAB : ∀ q, B q → A q) (h : SH e0 A U H) : SH e0 B U H := ⟨h.1.narrow hAB, h.2.1.narrow hAB, h.2.2.1.narrow hAB, h.2.2.2.narrow hAB⟩
abbrev tysA (AC : Nat → ClassId) : List (ClassId × FieldType) := [(AC 100, .object "java/lang/Object"), (AC 101, .int), (AC 102, .long), (AC 103, .boolean)]
abbrev pw (AC : Nat → ClassId) (w : Wd) : va_W := va_pl (wL w) (bw_c FTc AC w)
/-- a method's start -/
def PreW (D : va_G) (AC : Nat → ClassId) (e0 mi sz : Nat) (w : Wd) (U : State) : Prop := U.heap.size = sz ∧ va_P D cls8 (pw AC w) U.heap ∧ va_K D cls8 (tysA AC) U ∧ va_D (fun _ => True) (pw AC w) ∧ SH e0 (va_A (pw AC w) sz) U U.heap ∧ SV mi U
/-- the world behind it -/
def PostW (D : va_G) (AC : Nat → ClassId) (A : Nat → Prop) (w' : Wd) (st t : State) : Prop := va_P D cls8 (pw AC w') t.heap ∧ va_D A (pw AC w') ∧ va_F A st t
def QQ (D : va_G) (AC : Nat → ClassId) (A : Nat → Prop) (Q : Option Value → Wd → Prop) : Array Value → State → Outcome → State → Prop := fun _ st o t => ∃ (v : Option Value) (w' : Wd), o = .returned v ∧ Q v w' ∧ PostW D AC A w' st t
def XX (D : va_G) (AC : Nat → ClassId) (A : Nat → Prop) (X : String → Wd → Prop) : String → State → State → Prop := fun E st t => ∃ w' : Wd, X E w' ∧ PostW D AC A w' st t
/-- THE CONTRACT: from the world w, with the arguments av, it returns v and the world w' with Q, or throws an E with X -/
def Ct (l : Launch) (D : va_G) (AC : Nat → ClassId) (e0 mi : Nat) (y : MethodName) (ws : List Cond) (fr lo : Nat) (av : List Value) (w : Wd) (mc ms : Nat) (Q : Option Value → Wd → Prop) (X : String → Wd → Prop) : Prop :=
  ∀ sz : Nat, vx_Met l y ws { frames := fr, cells := mc, slots := ms, locals := lo } (va_Pc av (PreW D AC e0 mi sz w)) (QQ D AC (va_A (pw AC w) sz) Q) (XX D AC (va_A (pw AC w) sz) X) mc ms (va_A (pw AC w) sz)
theorem pre_blind {D : va_G} {AC : Nat → ClassId} {e0 mi sz : Nat} {w : Wd} {av : List Value} : FrameBlind (va_Pc av (PreW D AC e0 mi sz w)) := by
  intro a U g mk q
  obtain ⟨q0, q1, q2, q3, q4, q5, q6⟩ := q
  exact ⟨q0, q1, q2, va_K.moved (u := U) (U := U.calling g mk a) (Vm.Alike.refl U.vm) q3, q4, SH.moved (u := U) (U := U.calling g mk a) (Vm.Alike.refl U.vm) q5, SV.same (s := U) (U := U.calling g mk a) rfl q6⟩
theorem bw_fr0 {D : va_G} {AC : Nat → ClassId} {A : Nat → Prop} {H0 H : Heap} {locs : List Loc} {w : Wd} (hW : HW D cls8 FTc AC A H0 H locs w) (hA : ∀ q, H0.size ≤ q → A q) : ∀ q, va_A (pw AC w) H.size q → A q := by
  intro q h
  rcases h with ⟨k, e, hk⟩ | h
  · exact hW.2.1.2 k _ hk
  · exact hA q (Nat.le_trans hW.2.2.1 h)
theorem pre_of {D : va_G} {AC : Nat → ClassId} {e0 mi : Nat} {A : Nat → Prop} {s U : State} {H : Heap} {locs : List Loc} {w : Wd} (hW : HW D cls8 FTc AC A s.heap H locs w) (hA : ∀ q, s.heap.size ≤ q → A q) (hK : va_K D cls8 (tysA AC) s) (hZ : SH e0 A s s.heap) (hV : SV mi s) (hU : U.heap = H) (hWm : s.WarmedH U.vm) : PreW D AC e0 mi H.size w U := by
  refine ⟨by rw [hU], by rw [hU]; exact hW.1, hK.moved hWm.alike, hW.2.1.weaken (fun _ _ _ _ => trivial), ?_, hV.warm hWm⟩
  rw [hU]
  exact ((hZ.kept hW.2.2.2.1).moved hWm.alike).narrow (bw_fr0 hW hA)
/-- what holds in a method's body -/
def CxT (tb : List ExceptionTableEntry) (p : Program) (l : Launch) (s : State) (m : MethodId) (args : Array Value) (meth : Method) (c : Code) (D : va_G) (AC : Nat → ClassId) (e0 mi : Nat) (A : Nat → Prop) (y : MethodName) (cc : ByteArray) (nL : Nat) (ret : Option FieldType) : Prop :=
  l.stackTraces = false ∧ p.tables.exec = Jvm.exec ∧ c.code = cc ∧ meth.sig.returnType = ret ∧ (∀ w ∈ TBL, w.before args s = true) ∧ s.vm.findClass y.cls = some m.cls ∧ meth.locks = false ∧ meth.name = y.name ∧ c.maxLocals = nL ∧ c.exceptionTable.toList = tb ∧ va_K D cls8 (tysA AC) s ∧ (∀ q, s.heap.size ≤ q → A q) ∧ SH e0 A s s.heap ∧ SV mi s
abbrev Cx (p : Program) (l : Launch) (s : State) (m : MethodId) (args : Array Value) (meth : Method) (c : Code) (D : va_G) (AC : Nat → ClassId) (e0 mi : Nat) (A : Nat → Prop) (y : MethodName) (cc : ByteArray) (nL : Nat) (ret : Option FieldType) : Prop := CxT [] p l s m args meth c D AC e0 mi A y cc nL ret
/-- a method's code and name among the words -/
def CI (y : MethodName) (bytes : ByteArray) (maxL : Nat) (ret : Option FieldType) (n : Nat) : Prop := Cond.code y bytes maxL ret ∈ TBL ∧ Cond.initialized y.cls ∈ TBL ∧ y.cls ≠ "java/lang/invoke/MethodHandle" ∧ y.cls ≠ "java/lang/invoke/VarHandle" ∧ (parseMethodDescriptor y.desc).map (fun d => d.parameters.length) = some n
abbrev wy (y : MethodName) (bytes : ByteArray) (maxL : Nat) (ret : Option FieldType) : List Cond := Cond.code y bytes maxL ret :: TBL
theorem wy_good {y : MethodName} {bytes : ByteArray} {maxL : Nat} {ret : Option FieldType} (h : Cond.code y bytes maxL ret ∈ TBL) : GoodIn TBL (wy y bytes maxL ret) := tg (fun w hw => (List.mem_cons.mp hw).elim (fun e => e ▸ h) id)
set_option maxHeartbeats 1000000 in
theorem Ct.of {l : Launch} {D : va_G} {AC : Nat → ClassId} {e0 mi : Nat} {y : MethodName} {bytes : ByteArray} {maxL : Nat} {ret : Option FieldType} {fr lo : Nat} {av : List Value} {w : Wd} {mc ms : Nat} {Q : Option Value → Wd → Prop} {X : String → Wd → Prop} (hl : l.stackTraces = false) (hy : plainName y.cls = true) (hn : (lg_sl av).length ≤ maxL)
    (body : ∀ (p : Program) (e : Env) (s : State) (m : MethodId) (args : Array Value) (below : List Frame) (meth : Method) (c : Code) (A : Nat → Prop) (ls : Array Slot), Cx p l s m args meth c D AC e0 mi A y bytes maxL ret → HW D cls8 FTc AC A s.heap s.heap [] w → lv_has ls maxL (lv_args 0 av) →
      W p l e { frames := fr, cells := mc, slots := ms, locals := lo } s m args below meth c s.heap [] 0 0 (vx_MQ below (QQ D AC A Q) (XX D AC A X) args s mc ms A) (F0 m 0 ls [])) : Ct l D AC e0 mi y (wy y bytes maxL ret) fr lo av w mc ms Q X := by
  intro sz
  refine vx_ofW (cc := bytes) (maxL := maxL) (ret := ret) hy rfl ?_
  intro p e s m args below meth c s₁ B hml hex hv
  obtain ⟨rfl, hsz, hP, hK, hD0, hZ, hV⟩ := hv
  have hts := atoms_spec (ws := wy y bytes maxL ret) B.pre
  subst hsz
  have hD := hD0.self (sz := s.heap.size)
  have hl2 := lv_entry av (n := maxL) hn
  rw [lg_entry_eq]
  exact body p e s m _ below meth c _ _ ⟨hl, B.exec, B.bytes, B.returns, fun w hw => hts w (List.mem_cons_of_mem _ hw), findClass_of_methodNamed B.named, B.notSynchronized, (name_of_methodNamed B.named B.method).1, hml, List.eq_nil_iff_forall_not_mem.mpr hex, hK, fun q h => Or.inr h, hZ, hV⟩ ⟨hP, hD, va_S.rf⟩ hl2
section BWC
variable {tb : List ExceptionTableEntry} {p : Program} {l : Launch} {e : Env} {R : Room} {s : State} {m : MethodId} {args : Array Value} {below : List Frame} {meth : Method} {c : Code} {H : Heap} {locs : List Loc} {cells slots : Nat} {Qf : State → Prop}
variable {cc : ByteArray} {pc : Nat} {ls : Array Slot} {rest st0 As : List Value} {D : va_G} {AC : Nat → ClassId} {A : Nat → Prop} {w : Wd} {e0 mi : Nat} {nL k n mc ms : Nat} {y0 y : MethodName} {ret0 ret : Option FieldType} {bytes : ByteArray} {maxL nA index fr lo : Nat} {Q Q1 : Option Value → Wd → Prop} {X X1 : String → Wd → Prop} {av : Array Value}
theorem bw_callR (hW : HW D cls8 FTc AC A s.heap H locs w) (hA : ∀ q, s.heap.size ≤ q → A q) (hr : vx_Run p l e R s m args below meth c H locs cells slots k n (F0 m pc ls st0) rest (QQ D AC (va_A (pw AC w) H.size) Q1 av) (XX D AC (va_A (pw AC w) H.size) X1) (va_A (pw AC w) H.size))
    (kx : ∀ (E : String) (ce : Cell) (q9 : Addr) (w' : Wd) (H1 : Heap) (locs1 : List Loc), X1 E w' → HW D cls8 FTc AC A s.heap H1 locs1 w' → H1[q9]? = some ce → ce.vm = .none → s.vm.findClass E = some ce.cls → vx_W p l e R s m args below meth c H1 locs1 (cells + k) (slots + n) Qf (F0 m pc ls rest) q9)
    (kk : ∀ (v : Option Value) (w' : Wd) (H1 : Heap) (locs1 : List Loc), Q1 v w' → HW D cls8 FTc AC A s.heap H1 locs1 w' → W p l e R s m args below meth c H1 locs1 (cells + k) (slots + n) Qf (F0 m (pc + 3) ls (v.toList ++ rest))) : W p l e R s m args below meth c H locs cells slots Qf (F0 m pc ls st0) := by
  have hFc := bw_fr0 hW hA
  intro T hT X0
  rcases hr T hT X0 with ⟨v, st₀, t, T', L, h0, X', hL, e1, e2, ⟨v', w', hv, hq, hP, hD, hF⟩, st⟩ | ⟨q, st₀, t, T', L, E, ce, h0, X', hL, e1, e2, ⟨w', hq, hP, hD, hF⟩, hce, hcv, hcl, st⟩
  · cases hv
    obtain ⟨k1, k2, k3⟩ := vx_keep h0 e1 hW.2.2 (fun q _ h => hFc q h) hFc hL hF
    obtain ⟨t2, a1, b1⟩ := kk v w' T'.heap (locs ++ L) hq ⟨by rw [e1]; exact hP, hD.weaken (fun _ _ _ h => hFc _ h), k3⟩ T' rfl X'
    exact ⟨t2, st t2 a1, b1⟩
  · obtain ⟨k1, k2, k3⟩ := vx_keep h0 e1 hW.2.2 (fun q _ h => hFc q h) hFc hL hF
    obtain ⟨t2, a1, b1⟩ := kx E ce q w' T'.heap (locs ++ L) hq ⟨by rw [e1]; exact hP, hD.weaken (fun _ _ _ h => hFc _ h), k3⟩ (by rw [e1]; exact hce) hcv hcl T' rfl X'
    exact ⟨t2, st.trans a1, b1⟩
/-- what a callee throws goes on to the caller's caller -/
theorem bw_up (C : Cx p l s m args meth c D AC e0 mi A y0 cc nL ret0) (hX : ∀ E w', X1 E w' → X E w') {E : String} {ce : Cell} {q9 : Addr} {w' : Wd} {H1 : Heap} {locs1 : List Loc} (hx : X1 E w') (hW : HW D cls8 FTc AC A s.heap H1 locs1 w') (h1 : H1[q9]? = some ce) (h2 : ce.vm = .none) (h3 : s.vm.findClass E = some ce.cls) (hc : cells ≤ mc) (hs : slots ≤ ms) :
    vx_W p l e R s m args below meth c H1 locs1 cells slots (vx_MQ below (QQ D AC A Q) (XX D AC A X) args s mc ms A) (F0 m pc ls rest) q9 := by
  obtain ⟨hl, hx0, hb, hr, ht, hown, hlocks, hnm, hml, hex, hK, hA, hZ, hV⟩ := C
  exact vx_out (fun x hx => by rw [hex] at hx; cases hx) hlocks h1 h2 h3 (fun t ht _ => ⟨w', hX E w' hx, by rw [ht]; exact hW.1, hW.2.1, hW.2.2.F ht⟩) hW.2.2.2.2 hc hs
/-- invokestatic -/
theorem bw_callS (C : CxT tb p l s m args meth c D AC e0 mi A y0 cc nL ret0) (hW : HW D cls8 FTc AC A s.heap H locs w) (ci : CI y bytes maxL ret nA) (hlink : Cond.methodLink y0.cls index y ∈ TBL) (hst : Cond.static y ∈ TBL) (hdg : decode cc pc = .ok (.invokestatic index, 3)) (hstack : st0 = As.reverse ++ rest) (hn : As.length = nA) (hls : ls.size = nL) (hroom : (rest.map fun v => v.category).sum ≤ 8) (hR : fr + 1 ≤ R.frames ∧ 8 + (maxL + 11) + lo ≤ R.locals) (hf : cells + k ≤ R.cells ∧ slots + n ≤ R.slots)
    (hM : Ct l D AC e0 mi y (wy y bytes maxL ret) fr lo As w k n Q1 X1)
    (kx : ∀ (E : String) (ce : Cell) (q9 : Addr) (w' : Wd) (H1 : Heap) (locs1 : List Loc), X1 E w' → HW D cls8 FTc AC A s.heap H1 locs1 w' → H1[q9]? = some ce → ce.vm = .none → s.vm.findClass E = some ce.cls → vx_W p l e R s m args below meth c H1 locs1 (cells + k) (slots + n) Qf (F0 m pc ls rest) q9)
    (kk : ∀ (v : Option Value) (w' : Wd) (H1 : Heap) (locs1 : List Loc), Q1 v w' → HW D cls8 FTc AC A s.heap H1 locs1 w' → W p l e R s m args below meth c H1 locs1 (cells + k) (slots + n) Qf (F0 m (pc + 3) ls (v.toList ++ rest))) : W p l e R s m args below meth c H locs cells slots Qf (F0 m pc ls st0) := by
  obtain ⟨hl, hx, hb, hr, ht, hown, hlocks, hnm, hml, hex, hK, hA, hZ, hV⟩ := C
  obtain ⟨c1, c2, c3, c4, c5⟩ := ci
  refine bw_callR (av := As.toArray) hW hA (vx_runS (n := nA) (Ts := TBL) (own := y0.cls) (bytes := bytes) (maxL := maxL) (ret := ret) ⟨hx, hb, hml, hown, ht⟩ (hM H.size) ⟨callB_of nA ht (wy_good c1) rfl rfl rfl (ht _ c2) (ht _ hlink) ⟨c3, c4, c5⟩ hR, ht _ hst⟩ ⟨pre_blind, fun U hU hWm => ⟨rfl, pre_of hW hA hK hZ hV hU hWm⟩⟩ rfl hn hls hstack (lv_room hroom) hdg hf) kx kk
/-- invokevirtual on an object of its own class -/
theorem bw_callV (C : CxT tb p l s m args meth c D AC e0 mi A y0 cc nL ret0) (hW : HW D cls8 FTc AC A s.heap H locs w) (ci : CI y bytes maxL ret nA) (hlink : Cond.methodLink y0.cls index y ∈ TBL) (hin : Cond.instanceMethod y ∈ TBL) (hsel : Cond.selects y.cls y y ∈ TBL) (hdg : decode cc pc = .ok (.invokevirtual index, 3)) {r : Option Nat} {b cn : Nat} {T : u_T} {N : Nat} (hr0 : r = some b) (hb0 : bw_is w b cn) (h100 : cn < 100) (hcn : cls8[cn]? = some (y.cls, T, N)) (hstack : st0 = As.reverse ++ va_rf r :: rest) (hn : As.length = nA) (hls : ls.size = nL) (hroom : (rest.map fun v => v.category).sum ≤ 8) (hR : fr + 1 ≤ R.frames ∧ 8 + (maxL + 11) + lo ≤ R.locals) (hf : cells + k ≤ R.cells ∧ slots + n ≤ R.slots)
    (hM : Ct l D AC e0 mi y (wy y bytes maxL ret) fr lo (va_rf (some b) :: As) w k n Q1 X1)
    (kx : ∀ (E : String) (ce : Cell) (q9 : Addr) (w' : Wd) (H1 : Heap) (locs1 : List Loc), X1 E w' → HW D cls8 FTc AC A s.heap H1 locs1 w' → H1[q9]? = some ce → ce.vm = .none → s.vm.findClass E = some ce.cls → vx_W p l e R s m args below meth c H1 locs1 (cells + k) (slots + n) Qf (F0 m pc ls rest) q9)
    (kk : ∀ (v : Option Value) (w' : Wd) (H1 : Heap) (locs1 : List Loc), Q1 v w' → HW D cls8 FTc AC A s.heap H1 locs1 w' → W p l e R s m args below meth c H1 locs1 (cells + k) (slots + n) Qf (F0 m (pc + 3) ls (v.toList ++ rest))) : W p l e R s m args below meth c H locs cells slots Qf (F0 m pc ls st0) := by
  obtain ⟨hl, hx, hb, hr, ht, hown, hlocks, hnm, hml, hex, hK, hA, hZ, hV⟩ := C
  obtain ⟨c1, c2, c3, c4, c5⟩ := ci
  subst hr0
  obtain ⟨q0, hq⟩ := va_pl_get (X := []) (f := bw_c FTc AC w) hb0.1
  rw [bw_c_o hb0.2 h100] at hq
  refine bw_callR (av := (Value.ref b :: As).toArray) hW hA (vx_runV (n := nA) (Ts := TBL) (own := y0.cls) (C := y.cls) (b := b) (bytes := bytes) (maxL := maxL) (ret := ret) ⟨hx, hb, hml, hown, ht⟩ (hM H.size) ⟨callB_of nA ht (wy_good c1) rfl rfl rfl (ht _ c2) (ht _ hlink) ⟨c3, c4, c5⟩ hR, ht _ hin, ht _ hsel⟩ ⟨pre_blind, va_recv hK hW.1 hcn hq, fun U hU hWm => ⟨rfl, pre_of hW hA hK hZ hV hU hWm⟩⟩ rfl hn hls hstack (lv_room hroom) hdg hf) kx kk
/-- a contract that never throws, as the kit has it -/
theorem Ct.met {y : MethodName} {ws : List Cond} {As : List Value} (h : Ct l D AC e0 mi y ws fr lo As w k n Q1 (fun _ _ => False)) (sz : Nat) : Met l y ws { frames := fr, cells := k, slots := n, locals := lo } (va_Pc As (PreW D AC e0 mi sz w)) (QQ D AC (va_A (pw AC w) sz) Q1) k n (va_A (pw AC w) sz) := by
  intro p e ha hc hk s m args below hf happ hP hK
  obtain ⟨j, o, h1, h2, h3, h4⟩ := h sz p e ha hc hk s m args below hf happ hP hK
  refine ⟨j, o, h1, h2, h3, ?_⟩
  rcases h4 with h4 | ⟨q, -, E, ce, L, ⟨w', hF, -⟩, -⟩
  · exact h4
  · exact hF.elim
/-- invokespecial of a constructor that never throws -/
theorem bw_callI (C : CxT tb p l s m args meth c D AC e0 mi A y0 cc nL ret0) (hW : HW D cls8 FTc AC A s.heap H locs w) (ci : CI y bytes maxL none nA) (hi : y.name = "<init>") (hlink : Cond.methodLink y0.cls index y ∈ TBL) (hin : Cond.instanceMethod y ∈ TBL) (hdg : decode cc pc = .ok (.invokespecial index, 3)) {b : Nat} (hstack : st0 = As.reverse ++ va_rf (some b) :: rest) (hn : As.length = nA) (hls : ls.size = nL) (hroom : (rest.map fun v => v.category).sum ≤ 8) (hR : fr + 1 ≤ R.frames ∧ 8 + (maxL + 11) + lo ≤ R.locals) (hf : cells + k ≤ R.cells ∧ slots + n ≤ R.slots)
    (hM : Ct l D AC e0 mi y (wy y bytes maxL none) fr lo (va_rf (some b) :: As) w k n Q1 (fun _ _ => False))
    (kk : ∀ (v : Option Value) (w' : Wd) (H1 : Heap) (locs1 : List Loc), Q1 v w' → HW D cls8 FTc AC A s.heap H1 locs1 w' → W p l e R s m args below meth c H1 locs1 (cells + k) (slots + n) Qf (F0 m (pc + 3) ls (v.toList ++ rest))) : W p l e R s m args below meth c H locs cells slots Qf (F0 m pc ls st0) := by
  obtain ⟨hl, hx, hb, hr, ht, hown, hlocks, hnm, hml, hex, hK, hA, hZ, hV⟩ := C
  obtain ⟨c1, c2, c3, c4, c5⟩ := ci
  have hr1 : va_Run p l e R s m args below meth c H locs cells slots k n (F0 m pc ls st0) rest (QQ D AC (va_A (pw AC w) H.size) Q1 (Value.ref b :: As).toArray) (va_A (pw AC w) H.size) := va_runI (n := nA) (Ts := TBL) (own := y0.cls) (b := b) (bytes := bytes) (maxL := maxL) ⟨hx, hb, hml, hown, ht⟩ (hM.met H.size) ⟨callB_of nA ht (wy_good c1) rfl rfl rfl (ht _ c2) (ht _ hlink) ⟨c3, c4, c5⟩ hR, hi, ht _ hin⟩ ⟨pre_blind, fun U hU hWm => ⟨rfl, pre_of hW hA hK hZ hV hU hWm⟩⟩ rfl hn hls hstack (lv_room hroom) hdg hf
  exact bw_callR (X1 := fun _ _ => False) (av := (Value.ref b :: As).toArray) hW hA (fun T hT X0 => Or.inl (hr1 T hT X0)) (fun E ce q9 w' H1 locs1 h => h.elim) kk
/-- ends -/
theorem bw_iret (C : CxT tb p l s m args meth c D AC e0 mi A y0 cc nL (some .int)) (hW : HW D cls8 FTc AC A s.heap H locs w) {v : Int32} (hq : Q (some (.int v)) w) (hdg : decode cc pc = .ok (.ireturn, 1)) (h1 : cells ≤ mc) (h2 : slots ≤ ms) : W p l e R s m args below meth c H locs cells slots (vx_MQ below (QQ D AC A Q) (XX D AC A X) args s mc ms A) (F0 m pc ls [.int v]) := by
  obtain ⟨hl, hx, hb, hr, ht, hown, hlocks, hnm, hml, hex, hK, hA, hZ, hV⟩ := C
  exact W.widen h1 h2 (vx_ret (W.iret hx hb hr (fun t ht _ => ⟨some (.int v), w, rfl, hq, by rw [ht]; exact hW.1, hW.2.1, hW.2.2.F ht⟩) hW.2.2.2.2 hdg))
theorem bw_zret (C : CxT tb p l s m args meth c D AC e0 mi A y0 cc nL (some .boolean)) (hW : HW D cls8 FTc AC A s.heap H locs w) {v : Int32} (hv : narrow .boolean (.int v) = .int v) (hq : Q (some (.int v)) w) (hdg : decode cc pc = .ok (.ireturn, 1)) (h1 : cells ≤ mc) (h2 : slots ≤ ms) : W p l e R s m args below meth c H locs cells slots (vx_MQ below (QQ D AC A Q) (XX D AC A X) args s mc ms A) (F0 m pc ls [.int v]) := by
  obtain ⟨hl, hx, hb, hr, ht, hown, hlocks, hnm, hml, hex, hK, hA, hZ, hV⟩ := C
  exact W.widen h1 h2 (vx_ret (W.zret hx hb hr hv (fun t ht _ => ⟨some (.int v), w, rfl, hq, by rw [ht]; exact hW.1, hW.2.1, hW.2.2.F ht⟩) hW.2.2.2.2 hdg))
theorem bw_vret (C : CxT tb p l s m args meth c D AC e0 mi A y0 cc nL none) (hW : HW D cls8 FTc AC A s.heap H locs w) (hq : Q none w) (hdg : decode cc pc = .ok (.return_, 1)) (h1 : cells ≤ mc) (h2 : slots ≤ ms) : W p l e R s m args below meth c H locs cells slots (vx_MQ below (QQ D AC A Q) (XX D AC A X) args s mc ms A) (F0 m pc ls []) := by
  obtain ⟨hl, hx, hb, hr, ht, hown, hlocks, hnm, hml, hex, hK, hA, hZ, hV⟩ := C
  exact W.widen h1 h2 (vx_ret (W.vret hx hb hr (fun t ht _ => ⟨none, w, rfl, hq, by rw [ht]; exact hW.1, hW.2.1, hW.2.2.F ht⟩) hW.2.2.2.2 hdg))
theorem bw_aret {rt : FieldType} (C : CxT tb p l s m args meth c D AC e0 mi A y0 cc nL (some rt)) (hrt : (∃ n, rt = .object n) ∨ ∃ t, rt = .array t) (hW : HW D cls8 FTc AC A s.heap H locs w) {v : Option Nat} (hq : Q (some (va_rf v)) w) (hdg : decode cc pc = .ok (.areturn, 1)) (h1 : cells ≤ mc) (h2 : slots ≤ ms) : W p l e R s m args below meth c H locs cells slots (vx_MQ below (QQ D AC A Q) (XX D AC A X) args s mc ms A) (F0 m pc ls [va_rf v]) := by
  obtain ⟨hl, hx, hb, hr, ht, hown, hlocks, hnm, hml, hex, hK, hA, hZ, hV⟩ := C
  refine W.widen h1 h2 (vx_ret (W.aret hx hb hr hrt ?_ (fun t ht _ => ⟨some (va_rf v), w, rfl, hq, by rw [ht]; exact hW.1, hW.2.1, hW.2.2.F ht⟩) hW.2.2.2.2 hdg))
  cases v with
  | none => exact Or.inl rfl
  | some a => exact Or.inr ⟨a, rfl⟩
/-- caught here by the row x of the method's table -/
theorem bw_catch (C : CxT tb p l s m args meth c D AC e0 mi A y0 cc nL ret0) {E name : String} {ce : Cell} {q : Addr} (pre : List ExceptionTableEntry) (x : ExceptionTableEntry) (suf : List ExceptionTableEntry) (hsplit : tb = pre ++ x :: suf)
    (hpass : ∀ z ∈ pre, covers z pc = false ∨ (z.catchType ≠ 0 ∧ ∃ nm : String, Cond.classLink y0.cls z.catchType nm ∈ TBL ∧ (E, nm) ∈ NCS)) (hx : covers x pc = true) (h0 : x.catchType ≠ 0)
    (hlink : Cond.classLink y0.cls x.catchType name ∈ TBL) (hcast : (E, name) ∈ CASTS) (hcell : H[q]? = some ce) (hv : ce.vm = .none) (hcl : s.vm.findClass E = some ce.cls)
    (kk : W p l e R s m args below meth c H locs cells slots Qf (F0 m x.handlerPc ls [va_rf (some q)])) : vx_W p l e R s m args below meth c H locs cells slots Qf (F0 m pc ls rest) q := by
  obtain ⟨hl, hx0, hb, hr, ht, hown, hlocks, hnm, hml, hex, hK, hA, hZ, hV⟩ := C
  refine vx_catch hown pre x suf (hex.trans hsplit) (fun z hz => ?_) hx h0 (ht _ hlink) ((hV.2.1 _ hcast).use rfl) hcell hv hcl kk
  rcases hpass z hz with h | ⟨h1, nm, h2, h3⟩
  · exact Or.inl h
  · exact Or.inr ⟨h1, nm, ht _ h2, hV.2.2.2.2.2 _ h3⟩
end BWC
abbrev wyW (y : MethodName) (bytes : ByteArray) (maxL : Nat) (ret : Option FieldType) (hh : List (Nat × Nat × Nat × Nat)) : List Cond := Cond.codeWith y bytes maxL ret hh :: TBL
set_option maxHeartbeats 1000000 in
/-- a method with a table of its own -/
theorem Ct.ofH {l : Launch} {D : va_G} {AC : Nat → ClassId} {e0 mi : Nat} {y : MethodName} {bytes : ByteArray} {maxL : Nat} {ret : Option FieldType} {hh : List (Nat × Nat × Nat × Nat)} {tb : List ExceptionTableEntry} {fr lo : Nat} {av : List Value} {w : Wd} {mc ms : Nat} {Q : Option Value → Wd → Prop} {X : String → Wd → Prop} (hl : l.stackTraces = false) (hy : plainName y.cls = true) (hn : (lg_sl av).length ≤ maxL) (htb : tableOf hh = tb)
    (body : ∀ (p : Program) (e : Env) (s : State) (m : MethodId) (args : Array Value) (below : List Frame) (meth : Method) (c : Code) (A : Nat → Prop) (ls : Array Slot), CxT tb p l s m args meth c D AC e0 mi A y bytes maxL ret → HW D cls8 FTc AC A s.heap s.heap [] w → lv_has ls maxL (lv_args 0 av) →
      W p l e { frames := fr, cells := mc, slots := ms, locals := lo } s m args below meth c s.heap [] 0 0 (vx_MQ below (QQ D AC A Q) (XX D AC A X) args s mc ms A) (F0 m 0 ls [])) : Ct l D AC e0 mi y (wyW y bytes maxL ret hh) fr lo av w mc ms Q X := by
  intro sz
  refine vx_ofWH (cc := bytes) (maxL := maxL) (ret := ret) (hh := hh) hy rfl ?_
  intro p e s m args below meth c s₁ B hml hv
  obtain ⟨rfl, hsz, hP, hK, hD0, hZ, hV⟩ := hv
  have hts := atoms_spec (ws := wyW y bytes maxL ret hh) B.pre
  subst hsz
  have hD := hD0.self (sz := s.heap.size)
  have hl2 := lv_entry av (n := maxL) hn
  rw [lg_entry_eq]
  exact body p e s m _ below meth c _ _ ⟨hl, B.exec, B.bytes, B.returns, fun w hw => hts w (List.mem_cons_of_mem _ hw), findClass_of_methodNamed B.named, B.notSynchronized, (name_of_methodNamed B.named B.method).1, hml, (vx_table (x := y) B (hts _ List.mem_cons_self)).trans htb, hK, fun q h => Or.inr h, hZ, hV⟩ ⟨hP, hD, va_S.rf⟩ hl2

