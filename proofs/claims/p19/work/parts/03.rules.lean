/-! ROWS OF INSTRUCTIONS over the world: references are va_rf of an Option Nat everywhere -/
section BWR
variable {p : Program} {l : Launch} {e : Env} {R : Room} {s : State} {m : MethodId} {args : Array Value} {below : List Frame} {meth : Method} {c : Code} {H : Heap} {locs : List Loc} {cells slots : Nat} {Q : State → Prop}
variable {cc : ByteArray} {pc : Nat} {ls : Array Slot} {rest : List Value} {D : va_G} {cl : List vw_C} {FT : Nat → List Nat} {AC : Nat → ClassId} {A : Nat → Prop} {H0 : Heap} {w : Wd} {tys : List (ClassId × FieldType)}
theorem bw_aload_n (hexec : p.tables.exec = Jvm.exec) (hb : c.code = cc) {k : Fin 4} {i : Nat} {r : Option Nat} (hdg : decode cc pc = .ok (.aload_n k, 1)) (hi : (k : Nat) = i) (hl : ls[i]? = some (.val (va_rf r)))
    (kk : W p l e R s m args below meth c H locs cells slots Q (F0 m (pc + 1) ls (va_rf r :: rest))) : W p l e R s m args below meth c H locs cells slots Q (F0 m pc ls rest) := by
  cases r with
  | none => exact lv_aload_nN hexec hb hdg hi hl kk
  | some x => exact lv_aload_n hexec hb hdg hi hl kk
theorem bw_aload (hexec : p.tables.exec = Jvm.exec) (hb : c.code = cc) {i : Nat} {r : Option Nat} (hdg : decode cc pc = .ok (.aload i, 2)) (hl : ls[i]? = some (.val (va_rf r)))
    (kk : W p l e R s m args below meth c H locs cells slots Q (F0 m (pc + 2) ls (va_rf r :: rest))) : W p l e R s m args below meth c H locs cells slots Q (F0 m pc ls rest) := by
  cases r with
  | none => exact lv_aloadN hexec hb hdg hl kk
  | some x => exact lv_aload hexec hb hdg hl kk
theorem bw_astore_n (hexec : p.tables.exec = Jvm.exec) (hb : c.code = cc) {k : Fin 4} {i nL : Nat} {r : Option Nat} {lv lv' : List (Nat × Value)} (hdg : decode cc pc = .ok (.astore_n k, 1)) (hi : (k : Nat) = i) (h : lv_has ls nL lv) (hn : i < nL) (hl : (i, va_rf r) :: lv.filter (fun q => !(q.1 == i) && !(q.1 + 1 == i && q.2.category == 2)) = lv')
    (kk : ∀ ls' : Array Slot, lv_has ls' nL lv' → W p l e R s m args below meth c H locs cells slots Q (F0 m (pc + 1) ls' rest)) : W p l e R s m args below meth c H locs cells slots Q (F0 m pc ls (va_rf r :: rest)) := by
  cases r with
  | none => exact lv_astore_nN hexec hb hdg hi h hn hl kk
  | some x => exact lv_astore_n hexec hb hdg hi h hn hl kk
theorem bw_astore (hexec : p.tables.exec = Jvm.exec) (hb : c.code = cc) {i nL : Nat} {r : Option Nat} {lv lv' : List (Nat × Value)} (hdg : decode cc pc = .ok (.astore i, 2)) (h : lv_has ls nL lv) (hn : i < nL) (hl : (i, va_rf r) :: lv.filter (fun q => !(q.1 == i) && !(q.1 + 1 == i && q.2.category == 2)) = lv')
    (kk : ∀ ls' : Array Slot, lv_has ls' nL lv' → W p l e R s m args below meth c H locs cells slots Q (F0 m (pc + 2) ls' rest)) : W p l e R s m args below meth c H locs cells slots Q (F0 m pc ls (va_rf r :: rest)) := by
  cases r with
  | none => exact lv_astoreN hexec hb hdg h hn hl kk
  | some x => exact lv_astore hexec hb hdg h hn hl kk
theorem bw_topr {r : Option Nat} (k : ∀ y : Option Nat, y = r → W p l e R s m args below meth c H locs cells slots Q (F0 m pc ls (va_rf y :: rest))) : W p l e R s m args below meth c H locs cells slots Q (F0 m pc ls (va_rf r :: rest)) := k r rfl
theorem bw_cat (r : Option Nat) : (va_rf r).category = 1 := by cases r <;> rfl
theorem bw_null (hexec : p.tables.exec = Jvm.exec) (hb : c.code = cc) (hdg : decode cc pc = .ok (.aconst_null, 1)) (k : W p l e R s m args below meth c H locs cells slots Q (F0 m (pc + 1) ls (va_rf none :: rest))) : W p l e R s m args below meth c H locs cells slots Q (F0 m pc ls rest) := lv_null hexec hb hdg k
theorem bw_ifnull (hexec : p.tables.exec = Jvm.exec) (hb : c.code = cc) {r : Option Nat} {off : Int} {tgt : Nat} (hdg : decode cc pc = .ok (.ifnull off, 3)) (ht : (pc : Int) + off = (tgt : Int))
    (kt : r = none → W p l e R s m args below meth c H locs cells slots Q (F0 m tgt ls rest)) (kf : ¬ r = none → W p l e R s m args below meth c H locs cells slots Q (F0 m (pc + 3) ls rest)) : W p l e R s m args below meth c H locs cells slots Q (F0 m pc ls (va_rf r :: rest)) := by
  cases r with
  | none => exact lv_ifnullN hexec hb hdg ht (kt rfl)
  | some x => exact lv_ifnull hexec hb hdg (kf (by simp))
theorem bw_ifnonnull (hexec : p.tables.exec = Jvm.exec) (hb : c.code = cc) {r : Option Nat} {off : Int} {tgt : Nat} (hdg : decode cc pc = .ok (.ifnonnull off, 3)) (ht : (pc : Int) + off = (tgt : Int))
    (kt : ¬ r = none → W p l e R s m args below meth c H locs cells slots Q (F0 m tgt ls rest)) (kf : r = none → W p l e R s m args below meth c H locs cells slots Q (F0 m (pc + 3) ls rest)) : W p l e R s m args below meth c H locs cells slots Q (F0 m pc ls (va_rf r :: rest)) := by
  cases r with
  | none => exact lv_ifnonnullN hexec hb hdg (kf rfl)
  | some x => exact lv_ifnonnull hexec hb hdg ht (kt (by simp))
/-- fields -/
theorem bw_getI (hexec : p.tables.exec = Jvm.exec) (hb : c.code = cc) {own ref C : String} {T : u_T} {N ci index a : Nat} {r : Option Nat} {Ts : List Cond} (hts : ∀ w ∈ Ts, w.before args s = true) (hin : ∀ w ∈ u_ws C T N, w ∈ Ts) (hown : s.vm.findClass own = some m.cls) (hK : va_K D cl tys s) (hW : HW D cl FT AC A H0 H locs w) (hr : r = some a) (ha : bw_is w a ci) (h100 : ci < 100) (hc : cl[ci]? = some (C, T, N)) (k : Nat) (hk : k < N) (hft : (FT ci)[k]? = some 0) (hlink : (Cond.fieldLink own index ref (T k).2.1 (T k).2.2.1).before args s = true) (hsame : ∀ x, s.fieldFound? (T k).1 (T k).2.1 (T k).2.2.1 = some x → s.fieldFound? ref (T k).2.1 (T k).2.2.1 = some x) (hdg : decode cc pc = .ok (.getfield index, 3))
    (kk : W p l e R s m args below meth c H locs cells slots Q (F0 m (pc + 3) ls (.int (wI w a k) :: rest))) : W p l e R s m args below meth c H locs cells slots Q (F0 m pc ls (va_rf r :: rest)) := by
  subst hr
  obtain ⟨q0, hq⟩ := va_pl_get (X := []) (f := bw_c FT AC w) ha.1
  rw [bw_c_o ha.2 h100] at hq
  exact va_get hexec hb hts hin hown hK hW.1 q0 hq hc k hk hlink hsame (by rw [bw_f_get, hft]; simp only [Option.map_some, Nat.zero_add]; rfl) hdg kk
theorem bw_getR (hexec : p.tables.exec = Jvm.exec) (hb : c.code = cc) {own ref C : String} {T : u_T} {N ci index a : Nat} {r : Option Nat} {Ts : List Cond} (hts : ∀ w ∈ Ts, w.before args s = true) (hin : ∀ w ∈ u_ws C T N, w ∈ Ts) (hown : s.vm.findClass own = some m.cls) (hK : va_K D cl tys s) (hW : HW D cl FT AC A H0 H locs w) (hr : r = some a) (ha : bw_is w a ci) (h100 : ci < 100) (hc : cl[ci]? = some (C, T, N)) (k : Nat) (hk : k < N) (hft : (FT ci)[k]? = some 1) (hlink : (Cond.fieldLink own index ref (T k).2.1 (T k).2.2.1).before args s = true) (hsame : ∀ x, s.fieldFound? (T k).1 (T k).2.1 (T k).2.2.1 = some x → s.fieldFound? ref (T k).2.1 (T k).2.2.1 = some x) (hdg : decode cc pc = .ok (.getfield index, 3))
    (kk : W p l e R s m args below meth c H locs cells slots Q (F0 m (pc + 3) ls (va_rf (wR w a k) :: rest))) : W p l e R s m args below meth c H locs cells slots Q (F0 m pc ls (va_rf r :: rest)) := by
  subst hr
  obtain ⟨q0, hq⟩ := va_pl_get (X := []) (f := bw_c FT AC w) ha.1
  rw [bw_c_o ha.2 h100] at hq
  exact va_get hexec hb hts hin hown hK hW.1 q0 hq hc k hk hlink hsame (by rw [bw_f_get, hft]; simp only [Option.map_some, Nat.zero_add]; rfl) hdg kk
theorem bw_putI (hexec : p.tables.exec = Jvm.exec) (hb : c.code = cc) {own ref C : String} {T : u_T} {N ci index a : Nat} {r : Option Nat} {Ts : List Cond} (hts : ∀ w ∈ Ts, w.before args s = true) (hin : ∀ w ∈ u_ws C T N, w ∈ Ts) (ty0 : Nat → FieldType) (hty : ∀ k, k < N → parseFieldDescriptor (T k).2.2.1 = some (ty0 k)) (hnm : ∀ a, a < N → ∀ b, b < N → a ≠ b → (T a).2.1 ≠ (T b).2.1) (hown : s.vm.findClass own = some m.cls) (hK : va_K D cl tys s) (hW : HW D cl FT AC A H0 H locs w) (hr : r = some a) (ha : bw_is w a ci) (h100 : ci < 100) (hc : cl[ci]? = some (C, T, N)) (k : Nat) (hk : k < N) (hft : (FT ci)[k]? = some 0) (hlink : (Cond.fieldLink own index ref (T k).2.1 (T k).2.2.1).before args s = true) (hsame : ∀ x, s.fieldFound? (T k).1 (T k).2.1 (T k).2.2.1 = some x → s.fieldFound? ref (T k).2.1 (T k).2.2.1 = some x)
    (hfin : (T k).2.2.2 = false ∨ ((T k).2.2.2 = true ∧ meth.name = "<init>" ∧ (T k).1 = own)) {v : Int32} (hn : narrow (ty0 k) (.int v) = .int v) (hfit : fits (ty0 k) (.int v) = true) (hdg : decode cc pc = .ok (.putfield index, 3))
    (kk : ∀ (H1 : Heap) (locs1 : List Loc), HW D cl FT AC A H0 H1 locs1 (sI w a k v) → W p l e R s m args below meth c H1 locs1 cells slots Q (F0 m (pc + 3) ls rest)) : W p l e R s m args below meth c H locs cells slots Q (F0 m pc ls (.int v :: va_rf r :: rest)) := by
  subst hr
  obtain ⟨q0, hq⟩ := va_pl_get (X := []) (f := bw_c FT AC w) ha.1
  have hq2 := hq
  rw [bw_c_o ha.2 h100] at hq2
  have hlen : k < (bw_f (FT ci) 0 (wI w a) (wR w a) (wJ w a)).length := by rw [bw_f_len]; exact (List.getElem?_eq_some_iff.mp hft).1
  have kk2 : ∀ (H1 : Heap) (locs1 : List Loc), va_P D cl ((va_pl (wL w) (bw_c FT AC w)).set q0 (a, .inr (ci, (bw_f (FT ci) 0 (wI w a) (wR w a) (wJ w a)).set k (.int v)))) H1 → va_D A ((va_pl (wL w) (bw_c FT AC w)).set q0 (a, .inr (ci, (bw_f (FT ci) 0 (wI w a) (wR w a) (wJ w a)).set k (.int v)))) → va_S A H0 H1 locs1 → W p l e R s m args below meth c H1 locs1 cells slots Q (F0 m (pc + 3) ls rest) := by
    intro H1 locs1 hP hD hS
    refine kk H1 locs1 (bw_put (w' := sI w a k v) hW ha.1 hq hP hD hS rfl (bw_upc rfl rfl ?_ (fun b hb => ⟨va_up_ne _ _ hb, rfl, rfl⟩)))
    rw [bw_c_o (w := sI w a k v) (ci := ci) ha.2 h100, bw_setI _ _ _ _ _ _ hft]
    show Sum.inr (ci, bw_f (FT ci) 0 (va_up (wI w) a (va_up (wI w a) k v) a) (wR w a) (wJ w a)) = _
    rw [va_up_self]
  rcases hfin with hf | ⟨hf, hi, ho⟩
  · exact va_put hexec hb hts hin ty0 hty hnm hown hK hW.1 hW.2.1 hW.2.2 q0 hq2 hc k hk hlink hsame hf (hty k hk) hn hfit hlen hdg kk2
  · exact va_putF hexec hb hts hin ty0 hty hnm hown hK hW.1 hW.2.1 hW.2.2 q0 hq2 hc k hk hlink hsame hf hi ho (hty k hk) hn hfit hlen hdg kk2
theorem bw_putR (hexec : p.tables.exec = Jvm.exec) (hb : c.code = cc) {own ref C : String} {T : u_T} {N ci index a : Nat} {r : Option Nat} {Ts : List Cond} (hts : ∀ w ∈ Ts, w.before args s = true) (hin : ∀ w ∈ u_ws C T N, w ∈ Ts) (ty0 : Nat → FieldType) (hty : ∀ k, k < N → parseFieldDescriptor (T k).2.2.1 = some (ty0 k)) (hnm : ∀ a, a < N → ∀ b, b < N → a ≠ b → (T a).2.1 ≠ (T b).2.1) (hown : s.vm.findClass own = some m.cls) (hK : va_K D cl tys s) (hW : HW D cl FT AC A H0 H locs w) (hr : r = some a) (ha : bw_is w a ci) (h100 : ci < 100) (hc : cl[ci]? = some (C, T, N)) (k : Nat) (hk : k < N) (hft : (FT ci)[k]? = some 1) (hlink : (Cond.fieldLink own index ref (T k).2.1 (T k).2.2.1).before args s = true) (hsame : ∀ x, s.fieldFound? (T k).1 (T k).2.1 (T k).2.2.1 = some x → s.fieldFound? ref (T k).2.1 (T k).2.2.1 = some x)
    (hfin : (T k).2.2.2 = false ∨ ((T k).2.2.2 = true ∧ meth.name = "<init>" ∧ (T k).1 = own)) {v : Option Nat} (hn : narrow (ty0 k) (va_rf v) = va_rf v) (hfit : fits (ty0 k) (va_rf v) = true) (hdg : decode cc pc = .ok (.putfield index, 3))
    (kk : ∀ (H1 : Heap) (locs1 : List Loc), HW D cl FT AC A H0 H1 locs1 (sR w a k v) → W p l e R s m args below meth c H1 locs1 cells slots Q (F0 m (pc + 3) ls rest)) : W p l e R s m args below meth c H locs cells slots Q (F0 m pc ls (va_rf v :: va_rf r :: rest)) := by
  subst hr
  obtain ⟨q0, hq⟩ := va_pl_get (X := []) (f := bw_c FT AC w) ha.1
  have hq2 := hq
  rw [bw_c_o ha.2 h100] at hq2
  have hlen : k < (bw_f (FT ci) 0 (wI w a) (wR w a) (wJ w a)).length := by rw [bw_f_len]; exact (List.getElem?_eq_some_iff.mp hft).1
  have kk2 : ∀ (H1 : Heap) (locs1 : List Loc), va_P D cl ((va_pl (wL w) (bw_c FT AC w)).set q0 (a, .inr (ci, (bw_f (FT ci) 0 (wI w a) (wR w a) (wJ w a)).set k (va_rf v)))) H1 → va_D A ((va_pl (wL w) (bw_c FT AC w)).set q0 (a, .inr (ci, (bw_f (FT ci) 0 (wI w a) (wR w a) (wJ w a)).set k (va_rf v)))) → va_S A H0 H1 locs1 → W p l e R s m args below meth c H1 locs1 cells slots Q (F0 m (pc + 3) ls rest) := by
    intro H1 locs1 hP hD hS
    refine kk H1 locs1 (bw_put (w' := sR w a k v) hW ha.1 hq hP hD hS rfl (bw_upc rfl rfl ?_ (fun b hb => ⟨rfl, va_up_ne _ _ hb, rfl⟩)))
    rw [bw_c_o (w := sR w a k v) (ci := ci) ha.2 h100, bw_setR _ _ _ _ _ _ hft]
    show Sum.inr (ci, bw_f (FT ci) 0 (wI w a) (va_up (wR w) a (va_up (wR w a) k v) a) (wJ w a)) = _
    rw [va_up_self]
  rcases hfin with hf | ⟨hf, hi, ho⟩
  · exact va_put hexec hb hts hin ty0 hty hnm hown hK hW.1 hW.2.1 hW.2.2 q0 hq2 hc k hk hlink hsame hf (hty k hk) hn hfit hlen hdg kk2
  · exact va_putF hexec hb hts hin ty0 hty hnm hown hK hW.1 hW.2.1 hW.2.2 q0 hq2 hc k hk hlink hsame hf hi ho (hty k hk) hn hfit hlen hdg kk2
theorem bw_nr (C : String) (v : Option Nat) : narrow (.object C) (va_rf v) = va_rf v := by cases v <;> rfl
theorem bw_fr (C : String) (v : Option Nat) : fits (.object C) (va_rf v) = true := by cases v <;> rfl
theorem bw_nra (t : FieldType) (v : Option Nat) : narrow (.array t) (va_rf v) = va_rf v := by cases v <;> rfl
theorem bw_fra (t : FieldType) (v : Option Nat) : fits (.array t) (va_rf v) = true := by cases v <;> rfl
/-- a new object -/
theorem bw_mk (hexec : p.tables.exec = Jvm.exec) (hb : c.code = cc) {own C : String} {T : u_T} {N ci index : Nat} {Ts : List Cond} (hts : ∀ w ∈ Ts, w.before args s = true) (hin : ∀ w ∈ u_ws C T N, w ∈ Ts) (ty : Nat → FieldType) (hty : ∀ k, k < N → parseFieldDescriptor (T k).2.2.1 = some (ty k)) (hown : s.vm.findClass own = some m.cls) (hcl : (Cond.classLink own index C).before args s = true) (hinst : (Cond.instantiable C N).before args s = true) (hini : (Cond.initialized C).before args s = true)
    (hK : va_K D cl tys s) (hW : HW D cl FT AC A H0 H locs w) (hA : ∀ q, H0.size ≤ q → A q) (h100 : ci < 100) (hc : cl[ci]? = some (C, T, N)) (hfs : ∀ j, j < N → defaultValue (ty j) = vp_V (bw_f (FT ci) 0 (fun _ => 0) (fun _ => none) (fun _ => 0)) j) (hcells : cells + 1 ≤ R.cells) (hslots : slots + N ≤ R.slots) (hdg : decode cc pc = .ok (.new index, 3))
    (kk : ∀ (q : Nat) (H1 : Heap), q ∉ wL w → HW D cl FT AC A H0 H1 locs (bw_new w q ci 0) → W p l e R s m args below meth c H1 locs (cells + 1) (slots + N) Q (F0 m (pc + 3) ls (va_rf (some q) :: rest))) : W p l e R s m args below meth c H locs cells slots Q (F0 m pc ls rest) := by
  refine va_new hexec hb hts hin ty hty hown hcl hinst hini hK hW.1 hW.2.1 hW.2.2 hA hc hfs hcells hslots hdg (fun q H1 hP hD hS => ?_)
  have h := bw_push (w := w) (kd := ci) (n := 0) hW hP hD hS (by
    rw [bw_c_o (w := bw_new w q ci 0) (ci := ci) (va_up_self _ _ _) h100]
    show Sum.inr (ci, bw_f (FT ci) 0 (va_up (wI w) q (fun _ => 0) q) (va_up (wR w) q (fun _ => none) q) (va_up (wJ w) q (fun _ => 0) q)) = _
    rw [va_up_self, va_up_self, va_up_self])
  exact kk q H1 h.1 h.2
end BWR
