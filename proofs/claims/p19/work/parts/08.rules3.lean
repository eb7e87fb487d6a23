/-! small rows that the walker uses -/
theorem bw_bud {c n m k : Nat} (h : c + n ≤ m) (hk : k ≤ n) : c + k + (n - k) ≤ m := by omega
theorem bw_bud0 {c n m : Nat} (h : c + n ≤ m) : c + 0 + n ≤ m := h
def bw_b (v : Int32) : Prop := v = 0 ∨ v = 1
theorem bw_bn {v : Int32} (h : bw_b v) : narrow .boolean (.int v) = .int v := by rcases h with rfl | rfl <;> rfl
theorem bw_bf {v : Int32} (h : bw_b v) : fits .boolean (.int v) = true := by rcases h with rfl | rfl <;> rfl
theorem bw_is_new {w : Wd} {q kd n a ci : Nat} (hq : q ∉ wL w) (h : bw_is w a ci) : bw_is (bw_new w q kd n) a ci :=
  ⟨List.mem_append_left _ h.1, (va_up_ne (wK w) (k := q) (j := a) kd (fun e => hq (e ▸ h.1))).trans h.2⟩
theorem bw_is_self (w : Wd) (q kd n : Nat) : bw_is (bw_new w q kd n) q kd := ⟨List.mem_append_right _ List.mem_cons_self, va_up_self _ _ _⟩
theorem cat_i (v : Int32) : (Value.int v).category = 1 := rfl
theorem cat_j (v : Int64) : (Value.long v).category = 2 := rfl
/-- the length of an Object[]: of ArrayList's empty one, or of one of the world -/
def bw_len (e0 : Nat) (w : Wd) (r : Option Nat) (n : Nat) : Prop := (r = some e0 ∧ n = 0) ∨ ∃ a : Nat, r = some a ∧ bw_is w a 100 ∧ n = wN w a
/-- a reference that may stand in an Object[] -/
def bw_el (w : Wd) (r : Option Nat) : Prop := ∀ b, r = some b → ∃ cn, bw_is w b cn ∧ cn < 6 ∧ cn ≠ 5
section BWX
variable {tb : List ExceptionTableEntry} {p : Program} {l : Launch} {e : Env} {R : Room} {s : State} {m : MethodId} {args : Array Value} {below : List Frame} {meth : Method} {c : Code} {H : Heap} {locs : List Loc} {cells slots : Nat} {Qf : State → Prop}
variable {cc : ByteArray} {pc : Nat} {ls : Array Slot} {rest : List Value} {D : va_G} {AC : Nat → ClassId} {A : Nat → Prop} {w : Wd} {e0 mi : Nat} {nL : Nat} {y0 : MethodName} {ret0 : Option FieldType} {Q : Option Value → Wd → Prop} {X : String → Wd → Prop} {mc ms : Nat}
theorem bw_alenq (C : CxT tb p l s m args meth c D AC e0 mi A y0 cc nL ret0) (hW : HW D cls8 FTc AC A s.heap H locs w) {r : Option Nat} {n : Nat} (hr : bw_len e0 w r n) (hdg : decode cc pc = .ok (.arraylength, 1))
    (kk : W p l e R s m args below meth c H locs cells slots Qf (F0 m (pc + 1) ls (.int (nI n) :: rest))) : W p l e R s m args below meth c H locs cells slots Qf (F0 m pc ls (va_rf r :: rest)) := by
  rcases hr with ⟨rfl, rfl⟩ | ⟨a, rfl, ha, rfl⟩
  · obtain ⟨hl, hx, hb, hr0, ht, hown, hlocks, hnm, hml, hex, hK, hA, hZ, hV⟩ := C
    exact va_tlen hx hb hZ.2.2.2 hW.2.2 rfl hdg kk
  · exact bw_alen C hW rfl ha (by decide) (t0 := 0) rfl hdg kk
theorem bw_ra (hK : va_K D cls8 (tysA AC) s) : s.vm.findClass ("[" ++ (FieldType.object "java/lang/Object").toString) = some (AC 100) := by
  obtain ⟨kA, comp, h1, h2, h3, h4⟩ : va_RA s (AC 100) (.object "java/lang/Object") := (hK.2 0 _ rfl).2
  exact h4
/-- new Object[n] -/
theorem bw_newq (C : CxT tb p l s m args meth c D AC e0 mi A y0 cc nL ret0) (hW : HW D cls8 FTc AC A s.heap H locs w) {index : Nat} (hlink : Cond.classLink y0.cls index "java/lang/Object" ∈ TBL) {n : Int32} (hn : ¬ n < 0) (hbytes : n.toNatClampNeg * 4 ≤ 536870912) (hcells : cells + 1 ≤ R.cells) (hslots : slots + n.toNatClampNeg ≤ R.slots) (hdg : decode cc pc = .ok (.anewarray index, 3))
    (kk : ∀ (q : Nat) (H1 : Heap), q ∉ wL w → HW D cls8 FTc AC A s.heap H1 locs (bw_new w q 100 n.toNatClampNeg) → W p l e R s m args below meth c H1 locs (cells + 1) (slots + n.toNatClampNeg) Qf (F0 m (pc + 3) ls (va_rf (some q) :: rest))) : W p l e R s m args below meth c H locs cells slots Qf (F0 m pc ls (.int n :: rest)) := by
  obtain ⟨hl, hx, hb, hr0, ht, hown, hlocks, hnm, hml, hex, hK, hA, hZ, hV⟩ := C
  refine va_newq hx hb hown (ht _ hlink) hV.2.2.2.1 hK hW.1 hW.2.1 hW.2.2 hA hn rfl hbytes hcells hslots hdg (fun q cA H1 hK1 hP hD hS => ?_)
  obtain ⟨kA, comp, -, -, -, e1⟩ : va_RA s cA (.object "java/lang/Object") := (hK1.2 4 _ rfl).2
  obtain rfl : cA = AC 100 := Option.some.inj (e1.symm.trans (bw_ra hK))
  have h := bw_push (w := w) (kd := 100) (n := n.toNatClampNeg) hW hP hD hS (by
    rw [bw_c_a (w := bw_new w q 100 n.toNatClampNeg) (kd := 100) (va_up_self _ _ _) (by decide)]
    show Sum.inl (AC 100, va_up (wN w) q n.toNatClampNeg q, bw_ar 100 (va_up (wI w) q (fun _ => 0) q) (va_up (wR w) q (fun _ => none) q) (va_up (wJ w) q (fun _ => 0) q)) = _
    rw [va_up_self, va_up_self, va_up_self, va_up_self]
    rfl)
  exact kk q H1 h.1 h.2
theorem bw_any (hK : va_K D cls8 (tysA AC) s) (hV : SV mi s) (hW : HW D cls8 FTc AC A s.heap H locs w) {b : Nat} (h : ∃ cn, bw_is w b cn ∧ cn < 6 ∧ cn ≠ 5) : va_Any "java/lang/Object" s H b := by
  obtain ⟨cn, hbn, hlt, h5⟩ := h
  obtain ⟨qk, hqk⟩ := va_pl_get (X := []) (f := bw_c FTc AC w) hbn.1
  rw [bw_c_o hbn.2 (by omega)] at hqk
  have go : ∀ (nm : String) (T : u_T) (N : Nat), cls8[cn]? = some (nm, T, N) → (nm, "java/lang/Object") ∈ CASTS → va_Any "java/lang/Object" s H b := by
    intro nm T N hcn hca
    refine va_rAny hK hW.1 hqk hcn (fun comp c0 h1 h2 => ?_)
    obtain ⟨c3, c4, hc3, hc4, hasg⟩ := Cond.castable_spec (hV.2.1 (nm, "java/lang/Object") hca)
    cases Option.some.inj (hc3.symm.trans h2)
    cases Option.some.inj (hc4.symm.trans h1)
    exact hasg
  match cn, hlt, h5, go with
  | 0, _, _, go => exact go _ _ _ rfl (by decide +kernel)
  | 1, _, _, go => exact go _ _ _ rfl (by decide +kernel)
  | 2, _, _, go => exact go _ _ _ rfl (by decide +kernel)
  | 3, _, _, go => exact go _ _ _ rfl (by decide +kernel)
  | 4, _, _, go => exact go _ _ _ rfl (by decide +kernel)
  | 5, _, h5, _ => exact absurd rfl h5
end BWX
/-- switches from 0 -/
theorem bw_i32 {x : Int32} {k : Int} (h : x.toInt = k) (hk : (Int32.ofInt k).toInt = k) : x = Int32.ofInt k := Int32.toInt_inj.mp (h.trans hk.symm)
theorem bw_sw4 {x : Int32} (h : ¬ (x.toInt < 0 ∨ 3 < x.toInt)) : x = 0 ∨ x = 1 ∨ x = 2 ∨ x = 3 := by
  have h4 : x.toInt = 0 ∨ x.toInt = 1 ∨ x.toInt = 2 ∨ x.toInt = 3 := by omega
  rcases h4 with h | h | h | h
  · exact Or.inl (bw_i32 h (by decide))
  · exact Or.inr (Or.inl (bw_i32 h (by decide)))
  · exact Or.inr (Or.inr (Or.inl (bw_i32 h (by decide))))
  · exact Or.inr (Or.inr (Or.inr (bw_i32 h (by decide))))
theorem bw_sw7 {x : Int32} (h : ¬ (x.toInt < 0 ∨ 6 < x.toInt)) : x = 0 ∨ x = 1 ∨ x = 2 ∨ x = 3 ∨ x = 4 ∨ x = 5 ∨ x = 6 := by
  have h4 : x.toInt = 0 ∨ x.toInt = 1 ∨ x.toInt = 2 ∨ x.toInt = 3 ∨ x.toInt = 4 ∨ x.toInt = 5 ∨ x.toInt = 6 := by omega
  rcases h4 with h | h | h | h | h | h | h <;> have h := bw_i32 h (by decide) <;> rw [h] <;> decide
theorem bw_sw8 {x : Int32} (h : ¬ (x.toInt < 0 ∨ 7 < x.toInt)) : x = 0 ∨ x = 1 ∨ x = 2 ∨ x = 3 ∨ x = 4 ∨ x = 5 ∨ x = 6 ∨ x = 7 := by
  have h4 : x.toInt = 0 ∨ x.toInt = 1 ∨ x.toInt = 2 ∨ x.toInt = 3 ∨ x.toInt = 4 ∨ x.toInt = 5 ∨ x.toInt = 6 ∨ x.toInt = 7 := by omega
  rcases h4 with h | h | h | h | h | h | h | h <;> have h := bw_i32 h (by decide) <;> rw [h] <;> decide
theorem bw_sw9 {x : Int32} (h : ¬ (x.toInt < 0 ∨ 8 < x.toInt)) : x = 0 ∨ x = 1 ∨ x = 2 ∨ x = 3 ∨ x = 4 ∨ x = 5 ∨ x = 6 ∨ x = 7 ∨ x = 8 := by
  have h4 : x.toInt = 0 ∨ x.toInt = 1 ∨ x.toInt = 2 ∨ x.toInt = 3 ∨ x.toInt = 4 ∨ x.toInt = 5 ∨ x.toInt = 6 ∨ x.toInt = 7 ∨ x.toInt = 8 := by omega
  rcases h4 with h | h | h | h | h | h | h | h | h <;> have h := bw_i32 h (by decide) <;> rw [h] <;> decide
