section
-- ===== PART A: goes FIRST, ahead of the names: the tables' words, and 'selects' of the private methods out of them =====
/-- a private method of a class that the tables say can be made, by its rows of tables_1 -/
def lw_okq (q : MethodName × Nat) : Prop := (q.1.cls ≠ "java/lang/invoke/MethodHandle" ∧ q.1.cls ≠ "java/lang/invoke/VarHandle") ∧ Cond.instantiable q.1.cls q.2 ∈ tables_1 ∧ Cond.privateMethod q.1 ∈ tables_1 ∧ Cond.instanceMethod q.1 ∈ tables_1
theorem lw_p0 : lw_okq (⟨"BeltRows", "itemsOnBelts", "()I"⟩, 9) := ⟨⟨by decide +kernel, by decide +kernel⟩, List.mem_of_getElem? (i := 26) (by decide +kernel), List.mem_of_getElem? (i := 96) (by decide +kernel), List.mem_of_getElem? (i := 97) (by decide +kernel)⟩
theorem lw_p1 : lw_okq (⟨"java/lang/Throwable", "fillInStackTrace", "(I)Ljava/lang/Throwable;"⟩, 6) := ⟨⟨by decide +kernel, by decide +kernel⟩, List.mem_of_getElem? (i := 167) (by decide +kernel), List.mem_of_getElem? (i := 165) (by decide +kernel), List.mem_of_getElem? (i := 166) (by decide +kernel)⟩
theorem lw_p2 : lw_okq (⟨"java/util/ArrayList", "add", "(Ljava/lang/Object;[Ljava/lang/Object;I)V"⟩, 3) := ⟨⟨by decide +kernel, by decide +kernel⟩, List.mem_of_getElem? (i := 34) (by decide +kernel), List.mem_of_getElem? (i := 279) (by decide +kernel), List.mem_of_getElem? (i := 280) (by decide +kernel)⟩
theorem lw_p3 : lw_okq (⟨"java/util/ArrayList", "grow", "()[Ljava/lang/Object;"⟩, 3) := ⟨⟨by decide +kernel, by decide +kernel⟩, List.mem_of_getElem? (i := 34) (by decide +kernel), List.mem_of_getElem? (i := 283) (by decide +kernel), List.mem_of_getElem? (i := 284) (by decide +kernel)⟩
theorem lw_p4 : lw_okq (⟨"java/util/ArrayList", "grow", "(I)[Ljava/lang/Object;"⟩, 3) := ⟨⟨by decide +kernel, by decide +kernel⟩, List.mem_of_getElem? (i := 34) (by decide +kernel), List.mem_of_getElem? (i := 287) (by decide +kernel), List.mem_of_getElem? (i := 288) (by decide +kernel)⟩
theorem lw_p5 : lw_okq (⟨"BeltRows", "findBelt", "(I)LBeltRows$Belt;"⟩, 9) := ⟨⟨by decide +kernel, by decide +kernel⟩, List.mem_of_getElem? (i := 26) (by decide +kernel), List.mem_of_getElem? (i := 343) (by decide +kernel), List.mem_of_getElem? (i := 344) (by decide +kernel)⟩
theorem lw_p6 : lw_okq (⟨"BeltRows", "waysTo", "(LBeltRows$Belt;)I"⟩, 9) := ⟨⟨by decide +kernel, by decide +kernel⟩, List.mem_of_getElem? (i := 26) (by decide +kernel), List.mem_of_getElem? (i := 372) (by decide +kernel), List.mem_of_getElem? (i := 373) (by decide +kernel)⟩
theorem lw_p7 : lw_okq (⟨"BeltRows", "missingToRoom", "(LBeltRows$Belt;)I"⟩, 9) := ⟨⟨by decide +kernel, by decide +kernel⟩, List.mem_of_getElem? (i := 26) (by decide +kernel), List.mem_of_getElem? (i := 429) (by decide +kernel), List.mem_of_getElem? (i := 430) (by decide +kernel)⟩
theorem lw_p8 : lw_okq (⟨"BeltRows$Item", "forgetWay", "()V"⟩, 11) := ⟨⟨by decide +kernel, by decide +kernel⟩, List.mem_of_getElem? (i := 438) (by decide +kernel), List.mem_of_getElem? (i := 500) (by decide +kernel), List.mem_of_getElem? (i := 501) (by decide +kernel)⟩
theorem lw_p9 : lw_okq (⟨"BeltRows", "findItem", "(I)LBeltRows$Item;"⟩, 9) := ⟨⟨by decide +kernel, by decide +kernel⟩, List.mem_of_getElem? (i := 26) (by decide +kernel), List.mem_of_getElem? (i := 512) (by decide +kernel), List.mem_of_getElem? (i := 513) (by decide +kernel)⟩
theorem lw_p10 : lw_okq (⟨"BeltRows", "passSecond", "()V"⟩, 9) := ⟨⟨by decide +kernel, by decide +kernel⟩, List.mem_of_getElem? (i := 26) (by decide +kernel), List.mem_of_getElem? (i := 543) (by decide +kernel), List.mem_of_getElem? (i := 544) (by decide +kernel)⟩
theorem lw_p11 : lw_okq (⟨"BeltRows", "tellReads", "()V"⟩, 9) := ⟨⟨by decide +kernel, by decide +kernel⟩, List.mem_of_getElem? (i := 26) (by decide +kernel), List.mem_of_getElem? (i := 547) (by decide +kernel), List.mem_of_getElem? (i := 548) (by decide +kernel)⟩
theorem lw_p12 : lw_okq (⟨"BeltRows", "tell", "(LBeltRows$Edge;)V"⟩, 9) := ⟨⟨by decide +kernel, by decide +kernel⟩, List.mem_of_getElem? (i := 26) (by decide +kernel), List.mem_of_getElem? (i := 552) (by decide +kernel), List.mem_of_getElem? (i := 553) (by decide +kernel)⟩
theorem lw_p13 : lw_okq (⟨"java/util/ArrayList", "fastRemove", "([Ljava/lang/Object;I)V"⟩, 3) := ⟨⟨by decide +kernel, by decide +kernel⟩, List.mem_of_getElem? (i := 34) (by decide +kernel), List.mem_of_getElem? (i := 564) (by decide +kernel), List.mem_of_getElem? (i := 565) (by decide +kernel)⟩
theorem lw_p14 : lw_okq (⟨"BeltRows", "letOut", "(LBeltRows$Belt;)V"⟩, 9) := ⟨⟨by decide +kernel, by decide +kernel⟩, List.mem_of_getElem? (i := 26) (by decide +kernel), List.mem_of_getElem? (i := 569) (by decide +kernel), List.mem_of_getElem? (i := 570) (by decide +kernel)⟩
theorem lw_p15 : lw_okq (⟨"BeltRows", "passOnTo", "(LBeltRows$Belt;)V"⟩, 9) := ⟨⟨by decide +kernel, by decide +kernel⟩, List.mem_of_getElem? (i := 26) (by decide +kernel), List.mem_of_getElem? (i := 612) (by decide +kernel), List.mem_of_getElem? (i := 613) (by decide +kernel)⟩
def lw_privs_1 : List (MethodName × Nat) := [(⟨"BeltRows", "itemsOnBelts", "()I"⟩, 9), (⟨"java/lang/Throwable", "fillInStackTrace", "(I)Ljava/lang/Throwable;"⟩, 6), (⟨"java/util/ArrayList", "add", "(Ljava/lang/Object;[Ljava/lang/Object;I)V"⟩, 3), (⟨"java/util/ArrayList", "grow", "()[Ljava/lang/Object;"⟩, 3), (⟨"java/util/ArrayList", "grow", "(I)[Ljava/lang/Object;"⟩, 3), (⟨"BeltRows", "findBelt", "(I)LBeltRows$Belt;"⟩, 9), (⟨"BeltRows", "waysTo", "(LBeltRows$Belt;)I"⟩, 9), (⟨"BeltRows", "missingToRoom", "(LBeltRows$Belt;)I"⟩, 9), (⟨"BeltRows$Item", "forgetWay", "()V"⟩, 11), (⟨"BeltRows", "findItem", "(I)LBeltRows$Item;"⟩, 9), (⟨"BeltRows", "passSecond", "()V"⟩, 9), (⟨"BeltRows", "tellReads", "()V"⟩, 9), (⟨"BeltRows", "tell", "(LBeltRows$Edge;)V"⟩, 9), (⟨"java/util/ArrayList", "fastRemove", "([Ljava/lang/Object;I)V"⟩, 3), (⟨"BeltRows", "letOut", "(LBeltRows$Belt;)V"⟩, 9), (⟨"BeltRows", "passOnTo", "(LBeltRows$Belt;)V"⟩, 9)]
theorem lw_r1 : ∀ q ∈ lw_privs_1, lw_okq q := List.forall_mem_cons.mpr ⟨lw_p0, List.forall_mem_cons.mpr ⟨lw_p1, List.forall_mem_cons.mpr ⟨lw_p2, List.forall_mem_cons.mpr ⟨lw_p3, List.forall_mem_cons.mpr ⟨lw_p4, List.forall_mem_cons.mpr ⟨lw_p5, List.forall_mem_cons.mpr ⟨lw_p6, List.forall_mem_cons.mpr ⟨lw_p7, List.forall_mem_cons.mpr ⟨lw_p8, List.forall_mem_cons.mpr ⟨lw_p9, List.forall_mem_cons.mpr ⟨lw_p10, List.forall_mem_cons.mpr ⟨lw_p11, List.forall_mem_cons.mpr ⟨lw_p12, List.forall_mem_cons.mpr ⟨lw_p13, List.forall_mem_cons.mpr ⟨lw_p14, List.forall_mem_cons.mpr ⟨lw_p15, fun _ h => absurd h List.not_mem_nil⟩⟩⟩⟩⟩⟩⟩⟩⟩⟩⟩⟩⟩⟩⟩⟩
theorem lw_p16 : lw_okq (⟨"BeltRows", "giverTo", "(LBeltRows$Belt;)LBeltRows$Belt;"⟩, 9) := ⟨⟨by decide +kernel, by decide +kernel⟩, List.mem_of_getElem? (i := 26) (by decide +kernel), List.mem_of_getElem? (i := 616) (by decide +kernel), List.mem_of_getElem? (i := 617) (by decide +kernel)⟩
theorem lw_p17 : lw_okq (⟨"BeltRows", "moveItems", "(LBeltRows$Belt;)V"⟩, 9) := ⟨⟨by decide +kernel, by decide +kernel⟩, List.mem_of_getElem? (i := 26) (by decide +kernel), List.mem_of_getElem? (i := 631) (by decide +kernel), List.mem_of_getElem? (i := 632) (by decide +kernel)⟩
theorem lw_p18 : lw_okq (⟨"BeltRows", "noteReads", "(LBeltRows$Belt;LBeltRows$Item;I)V"⟩, 9) := ⟨⟨by decide +kernel, by decide +kernel⟩, List.mem_of_getElem? (i := 26) (by decide +kernel), List.mem_of_getElem? (i := 642) (by decide +kernel), List.mem_of_getElem? (i := 643) (by decide +kernel)⟩
theorem lw_p19 : lw_okq (⟨"BeltRowsModel", "isBelt", "(I)Z"⟩, 32) := ⟨⟨by decide +kernel, by decide +kernel⟩, List.mem_of_getElem? (i := 739) (by decide +kernel), List.mem_of_getElem? (i := 860) (by decide +kernel), List.mem_of_getElem? (i := 861) (by decide +kernel)⟩
theorem lw_p20 : lw_okq (⟨"BeltRowsModel", "missing", "(I)I"⟩, 32) := ⟨⟨by decide +kernel, by decide +kernel⟩, List.mem_of_getElem? (i := 739) (by decide +kernel), List.mem_of_getElem? (i := 880) (by decide +kernel), List.mem_of_getElem? (i := 881) (by decide +kernel)⟩
theorem lw_p21 : lw_okq (⟨"BeltRowsModel", "last", "(I)I"⟩, 32) := ⟨⟨by decide +kernel, by decide +kernel⟩, List.mem_of_getElem? (i := 739) (by decide +kernel), List.mem_of_getElem? (i := 884) (by decide +kernel), List.mem_of_getElem? (i := 885) (by decide +kernel)⟩
theorem lw_p22 : lw_okq (⟨"BeltRowsModel", "rear", "(I)I"⟩, 32) := ⟨⟨by decide +kernel, by decide +kernel⟩, List.mem_of_getElem? (i := 739) (by decide +kernel), List.mem_of_getElem? (i := 888) (by decide +kernel), List.mem_of_getElem? (i := 889) (by decide +kernel)⟩
theorem lw_p23 : lw_okq (⟨"BeltRowsModel", "come", "(II)V"⟩, 32) := ⟨⟨by decide +kernel, by decide +kernel⟩, List.mem_of_getElem? (i := 739) (by decide +kernel), List.mem_of_getElem? (i := 892) (by decide +kernel), List.mem_of_getElem? (i := 893) (by decide +kernel)⟩
theorem lw_p24 : lw_okq (⟨"BeltRowsModel", "isItem", "(I)Z"⟩, 32) := ⟨⟨by decide +kernel, by decide +kernel⟩, List.mem_of_getElem? (i := 739) (by decide +kernel), List.mem_of_getElem? (i := 900) (by decide +kernel), List.mem_of_getElem? (i := 901) (by decide +kernel)⟩
theorem lw_p25 : lw_okq (⟨"BeltRowsModel", "readDue", "()V"⟩, 32) := ⟨⟨by decide +kernel, by decide +kernel⟩, List.mem_of_getElem? (i := 739) (by decide +kernel), List.mem_of_getElem? (i := 908) (by decide +kernel), List.mem_of_getElem? (i := 909) (by decide +kernel)⟩
theorem lw_p26 : lw_okq (⟨"BeltRowsModel", "tell", "(III)V"⟩, 32) := ⟨⟨by decide +kernel, by decide +kernel⟩, List.mem_of_getElem? (i := 739) (by decide +kernel), List.mem_of_getElem? (i := 913) (by decide +kernel), List.mem_of_getElem? (i := 914) (by decide +kernel)⟩
theorem lw_p27 : lw_okq (⟨"BeltRowsModel", "exchange", "(I)V"⟩, 32) := ⟨⟨by decide +kernel, by decide +kernel⟩, List.mem_of_getElem? (i := 739) (by decide +kernel), List.mem_of_getElem? (i := 917) (by decide +kernel), List.mem_of_getElem? (i := 918) (by decide +kernel)⟩
theorem lw_p28 : lw_okq (⟨"BeltRowsModel", "atEnd", "(I)I"⟩, 32) := ⟨⟨by decide +kernel, by decide +kernel⟩, List.mem_of_getElem? (i := 739) (by decide +kernel), List.mem_of_getElem? (i := 921) (by decide +kernel), List.mem_of_getElem? (i := 922) (by decide +kernel)⟩
theorem lw_p29 : lw_okq (⟨"BeltRowsModel", "goesBy", "(I)I"⟩, 32) := ⟨⟨by decide +kernel, by decide +kernel⟩, List.mem_of_getElem? (i := 739) (by decide +kernel), List.mem_of_getElem? (i := 925) (by decide +kernel), List.mem_of_getElem? (i := 926) (by decide +kernel)⟩
theorem lw_p30 : lw_okq (⟨"BeltRowsModel", "leave", "(I)V"⟩, 32) := ⟨⟨by decide +kernel, by decide +kernel⟩, List.mem_of_getElem? (i := 739) (by decide +kernel), List.mem_of_getElem? (i := 929) (by decide +kernel), List.mem_of_getElem? (i := 930) (by decide +kernel)⟩
theorem lw_p31 : lw_okq (⟨"BeltRowsModel", "indexOf", "(I)I"⟩, 32) := ⟨⟨by decide +kernel, by decide +kernel⟩, List.mem_of_getElem? (i := 739) (by decide +kernel), List.mem_of_getElem? (i := 933) (by decide +kernel), List.mem_of_getElem? (i := 934) (by decide +kernel)⟩
def lw_privs_2 : List (MethodName × Nat) := [(⟨"BeltRows", "giverTo", "(LBeltRows$Belt;)LBeltRows$Belt;"⟩, 9), (⟨"BeltRows", "moveItems", "(LBeltRows$Belt;)V"⟩, 9), (⟨"BeltRows", "noteReads", "(LBeltRows$Belt;LBeltRows$Item;I)V"⟩, 9), (⟨"BeltRowsModel", "isBelt", "(I)Z"⟩, 32), (⟨"BeltRowsModel", "missing", "(I)I"⟩, 32), (⟨"BeltRowsModel", "last", "(I)I"⟩, 32), (⟨"BeltRowsModel", "rear", "(I)I"⟩, 32), (⟨"BeltRowsModel", "come", "(II)V"⟩, 32), (⟨"BeltRowsModel", "isItem", "(I)Z"⟩, 32), (⟨"BeltRowsModel", "readDue", "()V"⟩, 32), (⟨"BeltRowsModel", "tell", "(III)V"⟩, 32), (⟨"BeltRowsModel", "exchange", "(I)V"⟩, 32), (⟨"BeltRowsModel", "atEnd", "(I)I"⟩, 32), (⟨"BeltRowsModel", "goesBy", "(I)I"⟩, 32), (⟨"BeltRowsModel", "leave", "(I)V"⟩, 32), (⟨"BeltRowsModel", "indexOf", "(I)I"⟩, 32)]
theorem lw_r2 : ∀ q ∈ lw_privs_2, lw_okq q := List.forall_mem_cons.mpr ⟨lw_p16, List.forall_mem_cons.mpr ⟨lw_p17, List.forall_mem_cons.mpr ⟨lw_p18, List.forall_mem_cons.mpr ⟨lw_p19, List.forall_mem_cons.mpr ⟨lw_p20, List.forall_mem_cons.mpr ⟨lw_p21, List.forall_mem_cons.mpr ⟨lw_p22, List.forall_mem_cons.mpr ⟨lw_p23, List.forall_mem_cons.mpr ⟨lw_p24, List.forall_mem_cons.mpr ⟨lw_p25, List.forall_mem_cons.mpr ⟨lw_p26, List.forall_mem_cons.mpr ⟨lw_p27, List.forall_mem_cons.mpr ⟨lw_p28, List.forall_mem_cons.mpr ⟨lw_p29, List.forall_mem_cons.mpr ⟨lw_p30, List.forall_mem_cons.mpr ⟨lw_p31, fun _ h => absurd h List.not_mem_nil⟩⟩⟩⟩⟩⟩⟩⟩⟩⟩⟩⟩⟩⟩⟩⟩
theorem lw_p32 : lw_okq (⟨"BeltRowsModel", "move", "(I)V"⟩, 32) := ⟨⟨by decide +kernel, by decide +kernel⟩, List.mem_of_getElem? (i := 739) (by decide +kernel), List.mem_of_getElem? (i := 937) (by decide +kernel), List.mem_of_getElem? (i := 938) (by decide +kernel)⟩
def lw_privs_3 : List (MethodName × Nat) := [(⟨"BeltRowsModel", "move", "(I)V"⟩, 32)]
theorem lw_r3 : ∀ q ∈ lw_privs_3, lw_okq q := List.forall_mem_cons.mpr ⟨lw_p32, fun _ h => absurd h List.not_mem_nil⟩
def lw_privs : List (MethodName × Nat) := lw_privs_1 ++ (lw_privs_2 ++ (lw_privs_3))
def lw_tbl : List Cond := k2_sels lw_privs ++ tables_1
theorem lw_privs_ok : ∀ q ∈ lw_privs, lw_okq q := by
  show ∀ q ∈ lw_privs_1 ++ (lw_privs_2 ++ (lw_privs_3)), lw_okq q
  exact List.forall_mem_append.mpr ⟨lw_r1, List.forall_mem_append.mpr ⟨lw_r2, lw_r3⟩⟩
/-! ===== BEGIN words of one list among another's, by their places ===== -/
theorem goodIn_r {big : List Cond} (ws : List Cond) (ps : List Nat) (hp : ws = ps.filterMap (fun i => big[i]?)) (h : ws.all goodWord = true) : GoodIn big ws := by
  intro w hw
  have h1 := List.all_eq_true.mp h w hw
  rw [hp] at hw
  obtain ⟨i, -, hi⟩ := List.mem_filterMap.mp hw
  have hm : w ∈ big := by first | exact List.mem_of_getElem? hi | exact List.getElem?_mem hi
  exact ⟨hm, good_of_word h1⟩
theorem goodIn_app {big a b : List Cond} (ha : GoodIn big a) (hb : GoodIn big b) : GoodIn big (a ++ b) := fun w h => (List.mem_append.mp h).elim (ha w) (hb w)
theorem goodIn_ca {big a b : List Cond} {c : Cond} (ha : GoodIn big (c :: a)) (hb : GoodIn big b) : GoodIn big (c :: (a ++ b)) := fun w h => (List.mem_cons.mp h).elim (fun e => ha w (List.mem_cons.mpr (Or.inl e))) (fun h => (List.mem_append.mp h).elim (fun h => ha w (List.mem_cons.mpr (Or.inr h))) (hb w))
theorem goodIn_sub {big ws : List Cond} (hm : ∀ w ∈ ws, w ∈ big) (h : ws.all goodWord = true) : GoodIn big ws := fun w hw => ⟨hm w hw, good_of_word (List.all_eq_true.mp h w hw)⟩
/-! ===== END ===== -/

/-! ===== BEGIN exceptions that leave a method, and their catching by the caller (launches without stack traces) ===== -/
section VXA
/-! The laws vx_back, vx_callV, vx_callS, vx_callSW, vx_throw0, vx_throwS follow proofs of the library, with one case more: JvmDerived/Free/Laws.lean (Back.of_free), Shelf42/LK1.lean (callV, callS), Shelf/KitTraced.lean (throwNew0V, throwNewS). -/
/-- where a method has thrown q: the class by its name, the cell, what was written, the world -/
def vx_T (XC : String → State → State → Prop) (st : State) (q : Addr) (t : State) (mc ms : Nat) (free : Addr → Prop) : Prop :=
  ∃ (E : String) (ce : Cell) (L : List Loc), XC E st t ∧ t.heap[q]? = some ce ∧ ce.vm = .none ∧ st.vm.findClass E = some ce.cls ∧ st.WarmedH t.vm ∧ st.sameButNew ({ t with vm := st.vm } : State) L mc ms ∧ ∀ z ∈ L, free z.base
def vx_Q (Qc : Array Value → State → Outcome → State → Prop) (XC : String → State → State → Prop) (mc ms : Nat) (free : Addr → Prop) : Array Value → State → Outcome → State → Prop := fun a st o t =>
  (Qc a st o t ∧ ∃ L, FrameEnd st o t L mc ms ∧ ∀ q ∈ L, free q.base) ∨ ∃ q, o = .threw q ∧ vx_T XC st q t mc ms free
/-- a callee that returns or throws -/
def vx_Met (l : Launch) (y : MethodName) (ws : List Cond) (rm : Room) (Pc : Array Value → State → Prop) (Qc : Array Value → State → Outcome → State → Prop) (XC : String → State → State → Prop) (mc ms : Nat) (free : Addr → Prop) : Prop :=
  MetFree l y (headSpec ws rm) Pc (fun _ _ _ _ _ => True) (vx_Q Qc XC mc ms free)
def vx_Post (XC : String → State → State → Prop) (mc ms : Nat) (free : Addr → Prop) : Pt → Array Value → Addr → Pt → Prop := fun A a q B =>
  ∃ (g : JFrame) (mk : MethodId) (t : State) (L : List Loc) (E : String) (ce : Cell), B.U.heap = t.heap ∧ B.U.vm = t.vm ∧ XC E (A.U.calling g mk a) t ∧ t.heap[q]? = some ce ∧ ce.vm = .none ∧ A.U.vm.findClass E = some ce.cls ∧ B.locs = A.locs ++ L ∧ (∀ z ∈ L, free z.base) ∧ B.cells = A.cells + mc ∧ B.slots = A.slots + ms
def vx_Back (l : Launch) (R : Room) (p : Program) (e : Env) (below : List Frame) (s : State) (sargs : Array Value) (y : MethodName) (len W9 : Nat)
    (Pre : Pt → Array Value → Prop) (Post : Pt → Array Value → Option Value → Pt → Prop) (PostX : Pt → Array Value → Addr → Pt → Prop) : Prop :=
  ∀ (m : MethodId) (meth : Method) (c : Code) (A : Pt) (g : JFrame) (ig : Instr) (mk : MethodId) (a : Array Value),
    Stand p l e R s m sargs below meth c A.U A.locs A.cells A.slots → g.method = m → g.locals.size = c.maxLocals → decode c.code g.pc = .ok (ig, len) →
    2 * g.monitorRoom + (g.stack.map fun v => v.category).sum ≤ W9 → A.U.methodNamed? y = some mk → Pre A a →
    (∃ (v : Option Value) (B : Pt), Stand p l e R s m sargs below meth c B.U B.locs B.cells B.slots ∧ Post A a v B ∧
      Steps p.tables e below (doInvoke e (A.U.setTop g) [] mk a).1 (B.U.setTop { g with pc := g.pc + len, stack := v.toList ++ g.stack })) ∨
    (∃ (q : Addr) (B : Pt), Stand p l e R s m sargs below meth c B.U B.locs B.cells B.slots ∧ PostX A a q B ∧
      Steps p.tables e below (doInvoke e (A.U.setTop g) [] mk a).1 ((B.U.setTop g).pushFrame (.throwing q)))
section Payer
variable {l : Launch} {R : Room} {p : Program} {e : Env} {below : List Frame} {s : State} {sargs : Array Value} {y : MethodName} {len W9 : Nat}
theorem vx_back {ws : List Cond} {rm : Room} {Pc : Array Value → State → Prop} {Qc : Array Value → State → Outcome → State → Prop} {XC : String → State → State → Prop} {mc ms : Nat} {free : Addr → Prop} {bytes : ByteArray} {maxL : Nat} {ret : Option FieldType}
    (hM : vx_Met l y ws rm Pc Qc XC mc ms free) (hblind : FrameBlind Pc) (hrc : rm.cells = mc) (hrs : rm.slots = ms)
    (hframes : rm.frames + 1 ≤ R.frames) (hlocals : W9 + (maxL + 11) + rm.locals ≤ R.locals)
    (hws : ∀ w ∈ ws, ∀ a' U, s.WarmedH U.vm → w.before a' U = true) (hcode : Cond.code y bytes maxL ret ∈ ws) (hinit : ∀ a' U, s.WarmedH U.vm → (Cond.initialized y.cls).before a' U = true) :
    vx_Back l R p e below s sargs y len W9 (PreOf R mc ms Pc) (PostOf Qc mc ms free) (vx_Post XC mc ms free) := by
  intro m meth c A g ig mk a X hg hsize hdg hW hn hp
  have h1 : (headSpec ws rm).pre.before a A.U = true := atoms_intro fun w hw => hws w hw _ _ X.warmed
  have h2 : (Cond.code y bytes maxL ret).before a A.U = true := hws _ hcode _ _ X.warmed
  have h3 : (Cond.initialized y.cls).before a A.U = true := hinit _ _ X.warmed
  have h4 : A.cells + (headSpec ws rm).room.cells ≤ R.cells := by rw [show (headSpec ws rm).room.cells = mc from hrc]; exact hp.1
  have h5 : A.slots + (headSpec ws rm).room.slots ≤ R.slots := by rw [show (headSpec ws rm).room.slots = ms from hrs]; exact hp.2.1
  have hPc : Pc a (A.U.calling g mk a) := hblind _ _ _ _ hp.2.2
  obtain ⟨U, Ls, c0, s0⟩ := A
  dsimp only [Pt.U, Pt.locs, Pt.cells, Pt.slots] at h1 h2 h3 h4 h5 X hn hPc ⊢
  obtain ⟨methY, cY, hmY, hcY, -, hlY, -, -, -, -⟩ := Cond.code_spec hn h2
  obtain ⟨kY, hkY, -⟩ := className_of_methodNamed hn
  have hinitY : kY.init = .initialized := Cond.initialized_spec (findClass_of_methodNamed hn) hkY h3
  have h : At U g.method c below := by rw [hg]; exact X.here
  have hlocals9 : W9 + (maxL + 11) + (headSpec ws rm).room.locals ≤ R.locals := hlocals
  have happ : (headSpec ws rm).appliesLoose y e.platform (U.calling g mk a) = true :=
    Spec.appliesLoose_calling (g := g) h hdg hn hkY hinitY
      (X.room_calling (g := g) (R' := (headSpec ws rm).room) hsize hmY hcY hframes (by rw [hlY]; omega) h4 h5) h1
  obtain ⟨mid, hmid⟩ := h.above
  have hfr : (U.setTop g).frames = (.java g :: mid) ++ below := by rw [State.frames_setTop' g h.top, hmid]; rfl
  obtain ⟨o, s₂, hsteps, -, hend, hq⟩ := Steps.callFree hM p X.admits X.cas X.clock (acts := []) hfr happ hPc trivial
  have hq' : vx_Q Qc XC mc ms free a (U.calling g mk a) o s₂ := hq
  rw [State.frames_setTop' g h.top] at hend
  obtain ⟨g₀, hg0⟩ := Option.isSome_iff_exists.mp h.top
  obtain ⟨r, hr⟩ := State.topJava?_eq_some.mp hg0
  have hr' : (({ U with heap := s₂.heap, slotsUsed := s₂.slotsUsed } : State).setVm s₂.vm).frames = .java g₀ :: r := hr
  rcases hq' with ⟨hqc, L, hfe, hL⟩ | ⟨q, rfl, E, ce, L, hx, hce, hcv, hcl, hW₂, hsm, hL⟩
  · obtain ⟨⟨v, rfl⟩, hW₂, e2, q2, q3, q4, q5, q6⟩ := id hfe
    have e3 : s₂ = ({ (U.calling g mk a).setFrames s₂.frames with heap := s₂.heap, slotsUsed := s₂.slotsUsed } : State).setVm s₂.vm := by
      have : s₂ = ({ s₂ with vm := (U.calling g mk a).vm } : State).setVm s₂.vm := rfl
      rw [e2] at this
      exact this
    obtain ⟨c₂, i₂, len₂, hc₂, hd₂, hf₂⟩ := hend
    have hW' : U.WarmedH s₂.vm := hW₂
    have hcc : c₂ = c := by
      have h1 : s₂.code? g.method = U.code? g.method := by
        rw [State.code?_eq, State.code?_eq, hW'.alike.method?]
      exact Option.some.inj (hc₂.symm.trans (h1.trans h.code))
    subst hcc
    have hlen : len₂ = len := by rw [hdg] at hd₂; cases hd₂; rfl
    subst hlen
    have hs₂ : s₂ = (({ U with heap := s₂.heap, slotsUsed := s₂.slotsUsed } : State).setVm s₂.vm).setTop { g with pc := g.pc + len₂, stack := v.toList ++ g.stack } := by
      refine e3.trans ?_
      rw [hf₂, State.calling_eq h.top, State.setFrames_setFrames, State.setTop_of_frames _ hr', hr]
      rfl
    have hsame : U.sameButNew ({ U with heap := s₂.heap, slotsUsed := s₂.slotsUsed } : State) L mc ms := by
      refine ⟨?_, q2, q3, q4, q5, q6⟩
      obtain ⟨t, ht, -⟩ := State.frames_cons hr
      show ({ U with heap := s₂.heap, slotsUsed := s₂.slotsUsed } : State) = { U.setFrames U.frames with heap := s₂.heap, slotsUsed := s₂.slotsUsed }
      rw [State.setFrames_self ht]
    subst hg
    refine Or.inl ⟨v, ⟨(({ U with heap := s₂.heap, slotsUsed := s₂.slotsUsed } : State).setVm s₂.vm), Ls ++ L, c0 + mc, s0 + ms⟩,
      ⟨X.admits, X.cas, X.clock, X.frames, X.room, X.hears, X.method, X.code, (X.here.setHeapUsed s₂.heap s₂.slotsUsed).setVm hW'.alike, X.tail, State.WarmedH.trans X.warmed hW', X.limits, X.bytes, X.same.trans (hsame.setVm s.vm)⟩,
      ⟨g, mk, s₂, L, rfl, rfl, hqc, rfl, hL, rfl, rfl⟩, ?_⟩
    show Steps p.tables e below _ ((({ U with heap := s₂.heap, slotsUsed := s₂.slotsUsed } : State).setVm s₂.vm).setTop { g with pc := g.pc + len₂, stack := v.toList ++ g.stack })
    rw [← hs₂]
    exact hsteps
  · obtain ⟨e2, q2, q3, q4, q5, q6⟩ := id hsm
    have e3 : s₂ = ({ (U.calling g mk a).setFrames s₂.frames with heap := s₂.heap, slotsUsed := s₂.slotsUsed } : State).setVm s₂.vm := by
      have : s₂ = ({ s₂ with vm := (U.calling g mk a).vm } : State).setVm s₂.vm := rfl
      rw [e2] at this
      exact this
    have hf₂ : s₂.frames = .throwing q :: .java g :: U.frames.tail := hend
    have hW' : U.WarmedH s₂.vm := hW₂
    have hs₂ : s₂ = ((({ U with heap := s₂.heap, slotsUsed := s₂.slotsUsed } : State).setVm s₂.vm).setTop g).pushFrame (.throwing q) := by
      refine e3.trans ?_
      rw [hf₂, State.calling_eq h.top, State.setFrames_setFrames, State.pushFrame, State.frames_setTop _ hr', State.setTop_of_frames _ hr', State.setFrames_setFrames, hr]
      rfl
    have hsame : U.sameButNew ({ U with heap := s₂.heap, slotsUsed := s₂.slotsUsed } : State) L mc ms := by
      refine ⟨?_, q2, q3, q4, q5, q6⟩
      obtain ⟨t, ht, -⟩ := State.frames_cons hr
      show ({ U with heap := s₂.heap, slotsUsed := s₂.slotsUsed } : State) = { U.setFrames U.frames with heap := s₂.heap, slotsUsed := s₂.slotsUsed }
      rw [State.setFrames_self ht]
    subst hg
    refine Or.inr ⟨q, ⟨(({ U with heap := s₂.heap, slotsUsed := s₂.slotsUsed } : State).setVm s₂.vm), Ls ++ L, c0 + mc, s0 + ms⟩,
      ⟨X.admits, X.cas, X.clock, X.frames, X.room, X.hears, X.method, X.code, (X.here.setHeapUsed s₂.heap s₂.slotsUsed).setVm hW'.alike, X.tail, State.WarmedH.trans X.warmed hW', X.limits, X.bytes, X.same.trans (hsame.setVm s.vm)⟩,
      ⟨g, mk, s₂, L, E, ce, rfl, rfl, hx, hce, hcv, hcl, rfl, hL, rfl, rfl⟩, ?_⟩
    show Steps p.tables e below _ (((({ U with heap := s₂.heap, slotsUsed := s₂.slotsUsed } : State).setVm s₂.vm).setTop g).pushFrame (.throwing q))
    rw [← hs₂]
    exact hsteps
end Payer
section Calls
variable {p : Program} {l : Launch} {e : Env} {R : Room} {s : State} {m : MethodId} {args : Array Value} {below : List Frame} {meth : Method} {c : Code} {T : State} {locs : List Loc} {cells slots : Nat}
theorem vx_callV (X : Stand p l e R s m args below meth c T locs cells slots) (hexec : p.tables.exec = Jvm.exec) {own C : String} {index : Nat} {y : MethodName} {bytes : ByteArray} {maxL : Nat} {ret : Option FieldType}
    (hown : s.vm.findClass own = some m.cls) (hlink : (Cond.methodLink own index y).before args s = true) (hinst : (Cond.instanceMethod y).before args s = true) (hsel : (Cond.selects C y y).before args s = true)
    (hcode : (Cond.code y bytes maxL ret).before args s = true) (hy : y.cls ≠ "java/lang/invoke/MethodHandle" ∧ y.cls ≠ "java/lang/invoke/VarHandle")
    {W9 : Nat} {Pre : Pt → Array Value → Prop} {Post : Pt → Array Value → Option Value → Pt → Prop} {PostX : Pt → Array Value → Addr → Pt → Prop} (hK : vx_Back l R p e below s args y 3 W9 Pre Post PostX)
    {b : Addr} {cellB : Cell} (hcell : T.heap[b]? = some cellB) (hobj : cellB.vm.isStatics = false) (hcls : s.vm.findClass C = some cellB.cls)
    {g : JFrame} (hg : g.method = m) (hsize : g.locals.size = c.maxLocals) {argsL rest : List Value} (hlen : ∀ sig, parseMethodDescriptor y.desc = some sig → argsL.length = sig.parameters.length)
    (hstack : g.stack = argsL.reverse ++ .ref b :: rest) (hW : 2 * g.monitorRoom + (rest.map fun v => v.category).sum ≤ W9) (hdg : decode c.code g.pc = .ok (.invokevirtual index, 3))
    (hpre : ∀ vm₁, s.WarmedH vm₁ → Pre ⟨T.setVm vm₁, locs, cells, slots⟩ (Value.ref b :: argsL).toArray) :
    (∃ (v : Option Value) (vm₁ : Vm) (B : Pt), s.WarmedH vm₁ ∧ Stand p l e R s m args below meth c B.U B.locs B.cells B.slots ∧ Post ⟨T.setVm vm₁, locs, cells, slots⟩ (Value.ref b :: argsL).toArray v B ∧
      ∀ target, Steps p.tables e below (B.U.setTop { g with pc := g.pc + 3, stack := v.toList ++ rest }) target → Steps p.tables e below (T.setTop g) target) ∨
    (∃ (q : Addr) (vm₁ : Vm) (B : Pt), s.WarmedH vm₁ ∧ Stand p l e R s m args below meth c B.U B.locs B.cells B.slots ∧ PostX ⟨T.setVm vm₁, locs, cells, slots⟩ (Value.ref b :: argsL).toArray q B ∧
      Steps p.tables e below (T.setTop g) ((B.U.setTop { g with stack := rest }).pushFrame (.throwing q))) := by
  obtain ⟨mk, methM, hnamed, hmethM, hstM, habM⟩ := Cond.instanceMethod_spec hinst
  obtain ⟨methM', cM, hmethM', -, -, -, -, -, -, hsigM⟩ := Cond.code_spec hnamed hcode
  cases hmethM.symm.trans hmethM'
  obtain ⟨c2, r2, m2, q1, q2, q3, q4, kP, hkP, hkPi⟩ := Cond.selects_spec hsel
  cases hcls.symm.trans q1
  cases (State.methodFound?_of_named hnamed hy).symm.trans q2
  cases hnamed.symm.trans q3
  have hselP : selectMethod e.platform s.vm cellB.cls mk = .method mk := by rw [Launch.admits_selectMethod X.admits]; exact q4
  obtain ⟨vm₁, X₁, hstep₁⟩ := X.invokevirtual hexec hown hlink hnamed hmethM hstM hkP hkPi hy (a := b) (cell := cellB) hcell
    (fun z h => by rw [h] at hobj; cases hobj) hselP hmethM habM hkP hkPi (g := g) hg (argsL := argsL) (rest := rest) (hlen _ hsigM) hstack hdg
  rcases hK m meth c ⟨T.setVm vm₁, locs, cells, slots⟩ { g with stack := rest } (.invokevirtual index) mk (Value.ref b :: argsL).toArray X₁ hg hsize hdg hW (X₁.named hnamed) (hpre vm₁ X₁.warmed) with ⟨v, B, X', hpost, hsteps⟩ | ⟨q, B, X', hpost, hsteps⟩
  · exact Or.inl ⟨v, vm₁, B, X₁.warmed, X', hpost, fun target h => hstep₁ _ fun acts => by rw [doInvoke_state]; exact hsteps.trans h⟩
  · exact Or.inr ⟨q, vm₁, B, X₁.warmed, X', hpost, hstep₁ _ fun acts => by rw [doInvoke_state]; exact hsteps⟩
theorem vx_callS (X : Stand p l e R s m args below meth c T locs cells slots) (hexec : p.tables.exec = Jvm.exec) {own : String} {index : Nat} {y : MethodName} {bytes : ByteArray} {maxL : Nat} {ret : Option FieldType}
    (hown : s.vm.findClass own = some m.cls) (hlink : (Cond.methodLink own index y).before args s = true) (hstat : (Cond.static y).before args s = true) (hinit : (Cond.initialized y.cls).before args s = true)
    (hcode : (Cond.code y bytes maxL ret).before args s = true) (hy : y.cls ≠ "java/lang/invoke/MethodHandle" ∧ y.cls ≠ "java/lang/invoke/VarHandle")
    {W9 : Nat} {Pre : Pt → Array Value → Prop} {Post : Pt → Array Value → Option Value → Pt → Prop} {PostX : Pt → Array Value → Addr → Pt → Prop} (hK : vx_Back l R p e below s args y 3 W9 Pre Post PostX)
    {g : JFrame} (hg : g.method = m) (hsize : g.locals.size = c.maxLocals) {argsL rest : List Value} (hlen : ∀ sig, parseMethodDescriptor y.desc = some sig → argsL.length = sig.parameters.length)
    (hstack : g.stack = argsL.reverse ++ rest) (hW : 2 * g.monitorRoom + (rest.map fun v => v.category).sum ≤ W9) (hdg : decode c.code g.pc = .ok (.invokestatic index, 3))
    (hpre : ∀ vm₁, s.WarmedH vm₁ → Pre ⟨T.setVm vm₁, locs, cells, slots⟩ argsL.toArray) :
    (∃ (v : Option Value) (vm₁ : Vm) (B : Pt), s.WarmedH vm₁ ∧ Stand p l e R s m args below meth c B.U B.locs B.cells B.slots ∧ Post ⟨T.setVm vm₁, locs, cells, slots⟩ argsL.toArray v B ∧
      ∀ target, Steps p.tables e below (B.U.setTop { g with pc := g.pc + 3, stack := v.toList ++ rest }) target → Steps p.tables e below (T.setTop g) target) ∨
    (∃ (q : Addr) (vm₁ : Vm) (B : Pt), s.WarmedH vm₁ ∧ Stand p l e R s m args below meth c B.U B.locs B.cells B.slots ∧ PostX ⟨T.setVm vm₁, locs, cells, slots⟩ argsL.toArray q B ∧
      Steps p.tables e below (T.setTop g) ((B.U.setTop { g with stack := rest }).pushFrame (.throwing q))) := by
  obtain ⟨mk, hnamed⟩ := Cond.code_named hcode
  obtain ⟨methM, cM, hmethM, -, -, -, -, -, -, hsigM⟩ := Cond.code_spec hnamed hcode
  have hstatic : methM.isStatic = true := Cond.static_spec hnamed hmethM hstat
  obtain ⟨kP, hkP, -⟩ := className_of_methodNamed hnamed
  have hinitP : kP.init = .initialized := Cond.initialized_spec (findClass_of_methodNamed hnamed) hkP hinit
  obtain ⟨vm₁, X₁, hstep₁⟩ := X.invokestatic hexec hown hlink hnamed hmethM hstatic hkP hinitP hy (g := g) hg (argsL := argsL) (rest := rest) (hlen _ hsigM) hstack hdg
  rcases hK m meth c ⟨T.setVm vm₁, locs, cells, slots⟩ { g with stack := rest } (.invokestatic index) mk argsL.toArray X₁ hg hsize hdg hW (X₁.named hnamed) (hpre vm₁ X₁.warmed) with ⟨v, B, X', hpost, hsteps⟩ | ⟨q, B, X', hpost, hsteps⟩
  · exact Or.inl ⟨v, vm₁, B, X₁.warmed, X', hpost, fun target h => hstep₁ _ fun acts => by rw [doInvoke_state]; exact hsteps.trans h⟩
  · exact Or.inr ⟨q, vm₁, B, X₁.warmed, X', hpost, hstep₁ _ fun acts => by rw [doInvoke_state]; exact hsteps⟩
end Calls
theorem vx_cls {s : State} {T : State} {vm₁ : Vm} {E : String} {k : ClassId} (hW : s.WarmedH vm₁) (h : (T.setVm vm₁).vm.findClass E = some k) : s.vm.findClass E = some k := by
  have h1 : vm₁.findClass E = some k := h
  rw [hW.alike.findClass] at h1
  exact h1
/-- the method's frame g, with q thrown over it -/
def vx_W (p : Program) (l : Launch) (e : Env) (R : Room) (s : State) (m : MethodId) (args : Array Value) (below : List Frame) (meth : Method) (c : Code) (H : Heap) (locs : List Loc) (cells slots : Nat) (Q : State → Prop) (g : JFrame) (q : Addr) : Prop :=
  ∀ T : State, T.heap = H → Stand p l e R s m args below meth c T locs cells slots → ∃ t, Steps p.tables e below ((T.setTop g).pushFrame (.throwing q)) t ∧ Q t
def vx_Run (p : Program) (l : Launch) (e : Env) (R : Room) (s : State) (m : MethodId) (args : Array Value) (below : List Frame) (meth : Method) (c : Code) (H : Heap) (locs : List Loc) (cells slots mc ms : Nat) (g : JFrame) (rest : List Value) (Qa : State → Outcome → State → Prop) (XC : String → State → State → Prop) (free : Addr → Prop) : Prop :=
  ∀ T : State, T.heap = H → Stand p l e R s m args below meth c T locs cells slots →
    (∃ (v : Option Value) (st₀ t T' : State) (L : List Loc), st₀.heap = H ∧ Stand p l e R s m args below meth c T' (locs ++ L) (cells + mc) (slots + ms) ∧ (∀ q ∈ L, free q.base) ∧ T'.heap = t.heap ∧ T'.vm = t.vm ∧ Qa st₀ (.returned v) t ∧
      Goes p e below T g T' { g with pc := g.pc + 3, stack := v.toList ++ rest }) ∨
    (∃ (q : Addr) (st₀ t T' : State) (L : List Loc) (E : String) (ce : Cell), st₀.heap = H ∧ Stand p l e R s m args below meth c T' (locs ++ L) (cells + mc) (slots + ms) ∧ (∀ z ∈ L, free z.base) ∧ T'.heap = t.heap ∧ T'.vm = t.vm ∧ XC E st₀ t ∧ t.heap[q]? = some ce ∧ ce.vm = .none ∧ s.vm.findClass E = some ce.cls ∧
      Steps p.tables e below (T.setTop g) ((T'.setTop { g with stack := rest }).pushFrame (.throwing q)))
def vx_X {S : Type} (px : S → Prop) (B : String → S → State → Prop) (A : Nat → Prop) : String → State → State → Prop := fun E st t => ∃ u : S, px u ∧ B E u t ∧ va_F A st t
section Runs
variable {p : Program} {l : Launch} {e : Env} {R : Room} {s : State} {m : MethodId} {args : Array Value} {below : List Frame} {meth : Method} {c : Code} {H : Heap} {locs : List Loc} {cells slots : Nat}
variable {y : MethodName} {bytes cc : ByteArray} {maxL nL mc ms n index : Nat} {ret : Option FieldType} {ws : List Cond} {rm : Room} {Pc : Array Value → State → Prop} {Qc : Array Value → State → Outcome → State → Prop} {XC : String → State → State → Prop} {free : Addr → Prop} {Ts : List Cond} {own C : String} {b : Addr} {As rest : List Value} {g : JFrame}
theorem vx_callBack (cb : CallB R s args own index y bytes maxL ret ws rm mc ms n) (hM : vx_Met l y ws rm Pc Qc XC mc ms free) (hbl : FrameBlind Pc) : vx_Back l R p e below s args y 3 8 (PreOf R mc ms Pc) (PostOf Qc mc ms free) (vx_Post XC mc ms free) := by
  obtain ⟨hrc, hrs, hfr, hlo, hws, hcw, -, hini, -⟩ := cb
  exact vx_back (bytes := bytes) (maxL := maxL) (ret := ret) hM hbl hrc hrs hfr hlo hws hcw (fun a' U hW => word_at hW (Or.inl (by first | rfl | simp [Cond.onTables, Cond.keeps, Cond.steady])) hini)
theorem vx_runV (S : CallFix p m c cc nL s args Ts own) (hM : vx_Met l y ws rm Pc Qc XC mc ms free) (cw : CallW R s args own C index y bytes maxL ret ws rm mc ms n) (hp : PreV s H C b Pc As)
    (hg : g.method = m) (hn : As.length = n) (hsize : g.locals.size = nL) (hstack : g.stack = As.reverse ++ .ref b :: rest) (hW : 2 * g.monitorRoom + (rest.map fun v => v.category).sum ≤ 8) (hdg : decode cc g.pc = .ok (.invokevirtual index, 3)) (hf : cells + mc ≤ R.cells ∧ slots + ms ≤ R.slots) :
    vx_Run p l e R s m args below meth c H locs cells slots mc ms g rest (Qc (Value.ref b :: As).toArray) XC free := by
  have hK : vx_Back l R p e below s args y 3 8 (PreOf R mc ms Pc) (PostOf Qc mc ms free) (vx_Post XC mc ms free) := vx_callBack cw.1 hM hp.1
  obtain ⟨⟨-, -, -, -, -, -, hcode, -, hy, hlen, hl⟩, hin, hse⟩ := cw
  obtain ⟨hx, hb, hml, ho, -⟩ := S
  obtain ⟨-, ⟨cellB, hcB, hoB, hclB⟩, hPc⟩ := hp
  intro T hT X
  rcases vx_callV X hx (C := C) (bytes := bytes) (maxL := maxL) (ret := ret) ho hl hin hse hcode hy hK (by rw [hT]; exact hcB) hoB hclB hg (hsize.trans hml.symm) (argsL := As) (rest := rest) (fun sig h => hn.trans (hlen sig h)) hstack hW (by rw [hb]; exact hdg)
    (fun vm₁ hW₁ => ⟨hf.1, hf.2, hPc (T.setVm vm₁) hT hW₁⟩) with ⟨v, vm₁, ⟨U', l2, c2, s2⟩, hW₁, X', ⟨g', mk, t, L, e1, e2, hq, h1, hL, h2, h3⟩, st⟩ | ⟨q, vm₁, ⟨U', l2, c2, s2⟩, hW₁, X', ⟨g', mk, t, L, E, ce, e1, e2, hq, hce, hcv, hcl, h1, hL, h2, h3⟩, st⟩
  · dsimp only [Pt.U, Pt.locs, Pt.cells, Pt.slots] at X' e1 e2 h1 h2 h3 st
    subst h1; subst h2; subst h3
    exact Or.inl ⟨v, (T.setVm vm₁).calling g' mk (Value.ref b :: As).toArray, t, U', L, hT, X', hL, e1, e2, hq, st⟩
  · dsimp only [Pt.U, Pt.locs, Pt.cells, Pt.slots] at X' e1 e2 h1 h2 h3 st hcl
    subst h1; subst h2; subst h3
    exact Or.inr ⟨q, (T.setVm vm₁).calling g' mk (Value.ref b :: As).toArray, t, U', L, E, ce, hT, X', hL, e1, e2, hq, hce, hcv, vx_cls hW₁ hcl, st⟩
theorem vx_runS (S : CallFix p m c cc nL s args Ts own) (hM : vx_Met l y ws rm Pc Qc XC mc ms free) (cw : CallB R s args own index y bytes maxL ret ws rm mc ms n ∧ (Cond.static y).before args s = true) (hp : PreS s H Pc As)
    (hg : g.method = m) (hn : As.length = n) (hsize : g.locals.size = nL) (hstack : g.stack = As.reverse ++ rest) (hW : 2 * g.monitorRoom + (rest.map fun v => v.category).sum ≤ 8) (hdg : decode cc g.pc = .ok (.invokestatic index, 3)) (hf : cells + mc ≤ R.cells ∧ slots + ms ≤ R.slots) :
    vx_Run p l e R s m args below meth c H locs cells slots mc ms g rest (Qc As.toArray) XC free := by
  have hK : vx_Back l R p e below s args y 3 8 (PreOf R mc ms Pc) (PostOf Qc mc ms free) (vx_Post XC mc ms free) := vx_callBack cw.1 hM hp.1
  obtain ⟨⟨-, -, -, -, -, -, hcode, hini, hy, hlen, hl⟩, hstt⟩ := cw
  obtain ⟨hx, hb, hml, ho, -⟩ := S
  intro T hT X
  rcases vx_callS X hx (bytes := bytes) (maxL := maxL) (ret := ret) ho hl hstt hini hcode hy hK hg (hsize.trans hml.symm) (argsL := As) (rest := rest) (fun sig h => hn.trans (hlen sig h)) hstack hW (by rw [hb]; exact hdg)
    (fun vm₁ hW₁ => ⟨hf.1, hf.2, hp.2 (T.setVm vm₁) hT hW₁⟩) with ⟨v, vm₁, ⟨U', l2, c2, s2⟩, hW₁, X', ⟨g', mk, t, L, e1, e2, hq, h1, hL, h2, h3⟩, st⟩ | ⟨q, vm₁, ⟨U', l2, c2, s2⟩, hW₁, X', ⟨g', mk, t, L, E, ce, e1, e2, hq, hce, hcv, hcl, h1, hL, h2, h3⟩, st⟩
  · dsimp only [Pt.U, Pt.locs, Pt.cells, Pt.slots] at X' e1 e2 h1 h2 h3 st
    subst h1; subst h2; subst h3
    exact Or.inl ⟨v, (T.setVm vm₁).calling g' mk As.toArray, t, U', L, hT, X', hL, e1, e2, hq, st⟩
  · dsimp only [Pt.U, Pt.locs, Pt.cells, Pt.slots] at X' e1 e2 h1 h2 h3 st hcl
    subst h1; subst h2; subst h3
    exact Or.inr ⟨q, (T.setVm vm₁).calling g' mk As.toArray, t, U', L, E, ce, hT, X', hL, e1, e2, hq, hce, hcv, vx_cls hW₁ hcl, st⟩
end Runs
section Rows
variable {p : Program} {l : Launch} {e : Env} {R : Room} {s : State} {m : MethodId} {args : Array Value} {below : List Frame} {meth : Method} {c : Code} {H : Heap} {locs : List Loc} {cells slots : Nat} {Q : State → Prop}
variable {mc ms : Nat} {free : Addr → Prop} {A0 A1 : Nat → Prop} {H0 : Heap} {a : Array Value} {pc : Nat} {ls : Array Slot} {st0 rest : List Value}
theorem vx_keep {st₀ t T' : State} {L : List Loc} (h0 : st₀.heap = H) (e1 : T'.heap = t.heap) (hS : va_S A0 H0 H locs) (hA : ∀ q, q < H.size → A1 q → A0 q) (hf : ∀ q, free q → A0 q) (hL : ∀ q ∈ L, free q.base) (hF : va_F A1 st₀ t) :
    H.size ≤ T'.heap.size ∧ (∀ q : Nat, q < H.size → ¬ A1 q → T'.heap[q]? = H[q]?) ∧ va_S A0 H0 T'.heap (locs ++ L) := by
  obtain ⟨hz, hk⟩ := hF
  rw [h0] at hz hk
  exact ⟨by rw [e1]; exact hz, fun q h1 h2 => by rw [e1]; exact hk q h1 h2,
    ⟨Nat.le_trans hS.1 (by rw [e1]; exact hz), fun q h1 h2 => by rw [e1, hk q (Nat.lt_of_lt_of_le h1 hS.1) (fun z => h2 (hA q (Nat.lt_of_lt_of_le h1 hS.1) z))]; exact hS.2.1 q h1 h2, fun q hq => by
      rcases List.mem_append.mp hq with h | h
      · exact hS.2.2 q h
      · exact hf _ (hL q h)⟩⟩
theorem vx_calli {S SX : Type} {post : Int32 → S → Prop} {px : SX → Prop} {B : S → State → Prop} {BX : String → SX → State → Prop} {AX : Nat → Prop} (hr : vx_Run p l e R s m args below meth c H locs cells slots mc ms (F0 m pc ls st0) rest (va_Qi post B A1 a) (vx_X px BX AX) free) (hS : va_S A0 H0 H locs) (hA : ∀ q, q < H.size → A1 q → A0 q) (hf : ∀ q, free q → A0 q) (hAX : ∀ q, q < H.size → AX q → A0 q)
    (kx : ∀ (E : String) (ce : Cell) (q9 : Addr) (u : SX) (t : State) (H1 : Heap) (locs1 : List Loc), t.heap = H1 → s.vm.Alike t.vm → px u → BX E u t → H.size ≤ H1.size → (∀ q : Nat, q < H.size → ¬ AX q → H1[q]? = H[q]?) → va_S A0 H0 H1 locs1 → H1[q9]? = some ce → ce.vm = .none → s.vm.findClass E = some ce.cls → vx_W p l e R s m args below meth c H1 locs1 (cells + mc) (slots + ms) Q (F0 m pc ls rest) q9)
    (kk : ∀ (r : Int32) (u : S) (t : State) (H1 : Heap) (locs1 : List Loc), t.heap = H1 → s.vm.Alike t.vm → post r u → B u t → H.size ≤ H1.size → (∀ q : Nat, q < H.size → ¬ A1 q → H1[q]? = H[q]?) → va_S A0 H0 H1 locs1 → W p l e R s m args below meth c H1 locs1 (cells + mc) (slots + ms) Q (F0 m (pc + 3) ls (.int r :: rest))) : W p l e R s m args below meth c H locs cells slots Q (F0 m pc ls st0) := by
  intro T hT X
  rcases hr T hT X with ⟨v, st₀, t, T', L, h0, X', hL, e1, e2, ⟨⟨r, u, hv, hp, hb⟩, hF⟩, st⟩ | ⟨q, st₀, t, T', L, E, ce, h0, X', hL, e1, e2, ⟨u, hp, hb, hF⟩, hce, hcv, hcl, st⟩
  · cases hv
    obtain ⟨k1, k2, k3⟩ := vx_keep h0 e1 hS hA hf hL hF
    obtain ⟨t2, a1, b1⟩ := kk r u t T'.heap (locs ++ L) e1.symm (by rw [← e2]; exact X'.warmed.alike) hp hb k1 k2 k3 T' rfl X'
    exact ⟨t2, st t2 a1, b1⟩
  · obtain ⟨k1, k2, k3⟩ := vx_keep h0 e1 hS hAX hf hL hF
    obtain ⟨t2, a1, b1⟩ := kx E ce q u t T'.heap (locs ++ L) e1.symm (by rw [← e2]; exact X'.warmed.alike) hp hb k1 k2 k3 (by rw [e1]; exact hce) hcv hcl T' rfl X'
    exact ⟨t2, st.trans a1, b1⟩
theorem vx_calll {S SX : Type} {post : Int64 → S → Prop} {px : SX → Prop} {B : S → State → Prop} {BX : String → SX → State → Prop} {AX : Nat → Prop} (hr : vx_Run p l e R s m args below meth c H locs cells slots mc ms (F0 m pc ls st0) rest (va_Ql post B A1 a) (vx_X px BX AX) free) (hS : va_S A0 H0 H locs) (hA : ∀ q, q < H.size → A1 q → A0 q) (hf : ∀ q, free q → A0 q) (hAX : ∀ q, q < H.size → AX q → A0 q)
    (kx : ∀ (E : String) (ce : Cell) (q9 : Addr) (u : SX) (t : State) (H1 : Heap) (locs1 : List Loc), t.heap = H1 → s.vm.Alike t.vm → px u → BX E u t → H.size ≤ H1.size → (∀ q : Nat, q < H.size → ¬ AX q → H1[q]? = H[q]?) → va_S A0 H0 H1 locs1 → H1[q9]? = some ce → ce.vm = .none → s.vm.findClass E = some ce.cls → vx_W p l e R s m args below meth c H1 locs1 (cells + mc) (slots + ms) Q (F0 m pc ls rest) q9)
    (kk : ∀ (r : Int64) (u : S) (t : State) (H1 : Heap) (locs1 : List Loc), t.heap = H1 → s.vm.Alike t.vm → post r u → B u t → H.size ≤ H1.size → (∀ q : Nat, q < H.size → ¬ A1 q → H1[q]? = H[q]?) → va_S A0 H0 H1 locs1 → W p l e R s m args below meth c H1 locs1 (cells + mc) (slots + ms) Q (F0 m (pc + 3) ls (.long r :: rest))) : W p l e R s m args below meth c H locs cells slots Q (F0 m pc ls st0) := by
  intro T hT X
  rcases hr T hT X with ⟨v, st₀, t, T', L, h0, X', hL, e1, e2, ⟨⟨r, u, hv, hp, hb⟩, hF⟩, st⟩ | ⟨q, st₀, t, T', L, E, ce, h0, X', hL, e1, e2, ⟨u, hp, hb, hF⟩, hce, hcv, hcl, st⟩
  · cases hv
    obtain ⟨k1, k2, k3⟩ := vx_keep h0 e1 hS hA hf hL hF
    obtain ⟨t2, a1, b1⟩ := kk r u t T'.heap (locs ++ L) e1.symm (by rw [← e2]; exact X'.warmed.alike) hp hb k1 k2 k3 T' rfl X'
    exact ⟨t2, st t2 a1, b1⟩
  · obtain ⟨k1, k2, k3⟩ := vx_keep h0 e1 hS hAX hf hL hF
    obtain ⟨t2, a1, b1⟩ := kx E ce q u t T'.heap (locs ++ L) e1.symm (by rw [← e2]; exact X'.warmed.alike) hp hb k1 k2 k3 (by rw [e1]; exact hce) hcv hcl T' rfl X'
    exact ⟨t2, st.trans a1, b1⟩
theorem vx_callf {S SX : Type} {post : UInt32 → S → Prop} {px : SX → Prop} {B : S → State → Prop} {BX : String → SX → State → Prop} {AX : Nat → Prop} (hr : vx_Run p l e R s m args below meth c H locs cells slots mc ms (F0 m pc ls st0) rest (va_Qf post B A1 a) (vx_X px BX AX) free) (hS : va_S A0 H0 H locs) (hA : ∀ q, q < H.size → A1 q → A0 q) (hf : ∀ q, free q → A0 q) (hAX : ∀ q, q < H.size → AX q → A0 q)
    (kx : ∀ (E : String) (ce : Cell) (q9 : Addr) (u : SX) (t : State) (H1 : Heap) (locs1 : List Loc), t.heap = H1 → s.vm.Alike t.vm → px u → BX E u t → H.size ≤ H1.size → (∀ q : Nat, q < H.size → ¬ AX q → H1[q]? = H[q]?) → va_S A0 H0 H1 locs1 → H1[q9]? = some ce → ce.vm = .none → s.vm.findClass E = some ce.cls → vx_W p l e R s m args below meth c H1 locs1 (cells + mc) (slots + ms) Q (F0 m pc ls rest) q9)
    (kk : ∀ (r : UInt32) (u : S) (t : State) (H1 : Heap) (locs1 : List Loc), t.heap = H1 → s.vm.Alike t.vm → post r u → B u t → H.size ≤ H1.size → (∀ q : Nat, q < H.size → ¬ A1 q → H1[q]? = H[q]?) → va_S A0 H0 H1 locs1 → W p l e R s m args below meth c H1 locs1 (cells + mc) (slots + ms) Q (F0 m (pc + 3) ls (.float r :: rest))) : W p l e R s m args below meth c H locs cells slots Q (F0 m pc ls st0) := by
  intro T hT X
  rcases hr T hT X with ⟨v, st₀, t, T', L, h0, X', hL, e1, e2, ⟨⟨r, u, hv, hp, hb⟩, hF⟩, st⟩ | ⟨q, st₀, t, T', L, E, ce, h0, X', hL, e1, e2, ⟨u, hp, hb, hF⟩, hce, hcv, hcl, st⟩
  · cases hv
    obtain ⟨k1, k2, k3⟩ := vx_keep h0 e1 hS hA hf hL hF
    obtain ⟨t2, a1, b1⟩ := kk r u t T'.heap (locs ++ L) e1.symm (by rw [← e2]; exact X'.warmed.alike) hp hb k1 k2 k3 T' rfl X'
    exact ⟨t2, st t2 a1, b1⟩
  · obtain ⟨k1, k2, k3⟩ := vx_keep h0 e1 hS hAX hf hL hF
    obtain ⟨t2, a1, b1⟩ := kx E ce q u t T'.heap (locs ++ L) e1.symm (by rw [← e2]; exact X'.warmed.alike) hp hb k1 k2 k3 (by rw [e1]; exact hce) hcv hcl T' rfl X'
    exact ⟨t2, st.trans a1, b1⟩
theorem vx_calld {S SX : Type} {post : UInt64 → S → Prop} {px : SX → Prop} {B : S → State → Prop} {BX : String → SX → State → Prop} {AX : Nat → Prop} (hr : vx_Run p l e R s m args below meth c H locs cells slots mc ms (F0 m pc ls st0) rest (va_Qd post B A1 a) (vx_X px BX AX) free) (hS : va_S A0 H0 H locs) (hA : ∀ q, q < H.size → A1 q → A0 q) (hf : ∀ q, free q → A0 q) (hAX : ∀ q, q < H.size → AX q → A0 q)
    (kx : ∀ (E : String) (ce : Cell) (q9 : Addr) (u : SX) (t : State) (H1 : Heap) (locs1 : List Loc), t.heap = H1 → s.vm.Alike t.vm → px u → BX E u t → H.size ≤ H1.size → (∀ q : Nat, q < H.size → ¬ AX q → H1[q]? = H[q]?) → va_S A0 H0 H1 locs1 → H1[q9]? = some ce → ce.vm = .none → s.vm.findClass E = some ce.cls → vx_W p l e R s m args below meth c H1 locs1 (cells + mc) (slots + ms) Q (F0 m pc ls rest) q9)
    (kk : ∀ (r : UInt64) (u : S) (t : State) (H1 : Heap) (locs1 : List Loc), t.heap = H1 → s.vm.Alike t.vm → post r u → B u t → H.size ≤ H1.size → (∀ q : Nat, q < H.size → ¬ A1 q → H1[q]? = H[q]?) → va_S A0 H0 H1 locs1 → W p l e R s m args below meth c H1 locs1 (cells + mc) (slots + ms) Q (F0 m (pc + 3) ls (.double r :: rest))) : W p l e R s m args below meth c H locs cells slots Q (F0 m pc ls st0) := by
  intro T hT X
  rcases hr T hT X with ⟨v, st₀, t, T', L, h0, X', hL, e1, e2, ⟨⟨r, u, hv, hp, hb⟩, hF⟩, st⟩ | ⟨q, st₀, t, T', L, E, ce, h0, X', hL, e1, e2, ⟨u, hp, hb, hF⟩, hce, hcv, hcl, st⟩
  · cases hv
    obtain ⟨k1, k2, k3⟩ := vx_keep h0 e1 hS hA hf hL hF
    obtain ⟨t2, a1, b1⟩ := kk r u t T'.heap (locs ++ L) e1.symm (by rw [← e2]; exact X'.warmed.alike) hp hb k1 k2 k3 T' rfl X'
    exact ⟨t2, st t2 a1, b1⟩
  · obtain ⟨k1, k2, k3⟩ := vx_keep h0 e1 hS hAX hf hL hF
    obtain ⟨t2, a1, b1⟩ := kx E ce q u t T'.heap (locs ++ L) e1.symm (by rw [← e2]; exact X'.warmed.alike) hp hb k1 k2 k3 (by rw [e1]; exact hce) hcv hcl T' rfl X'
    exact ⟨t2, st.trans a1, b1⟩
theorem vx_callv {S SX : Type} {post : S → Prop} {px : SX → Prop} {B : S → State → Prop} {BX : String → SX → State → Prop} {AX : Nat → Prop} (hr : vx_Run p l e R s m args below meth c H locs cells slots mc ms (F0 m pc ls st0) rest (va_Qv post B A1 a) (vx_X px BX AX) free) (hS : va_S A0 H0 H locs) (hA : ∀ q, q < H.size → A1 q → A0 q) (hf : ∀ q, free q → A0 q) (hAX : ∀ q, q < H.size → AX q → A0 q)
    (kx : ∀ (E : String) (ce : Cell) (q9 : Addr) (u : SX) (t : State) (H1 : Heap) (locs1 : List Loc), t.heap = H1 → s.vm.Alike t.vm → px u → BX E u t → H.size ≤ H1.size → (∀ q : Nat, q < H.size → ¬ AX q → H1[q]? = H[q]?) → va_S A0 H0 H1 locs1 → H1[q9]? = some ce → ce.vm = .none → s.vm.findClass E = some ce.cls → vx_W p l e R s m args below meth c H1 locs1 (cells + mc) (slots + ms) Q (F0 m pc ls rest) q9)
    (kk : ∀ (u : S) (t : State) (H1 : Heap) (locs1 : List Loc), t.heap = H1 → s.vm.Alike t.vm → post u → B u t → H.size ≤ H1.size → (∀ q : Nat, q < H.size → ¬ A1 q → H1[q]? = H[q]?) → va_S A0 H0 H1 locs1 → W p l e R s m args below meth c H1 locs1 (cells + mc) (slots + ms) Q (F0 m (pc + 3) ls (rest))) : W p l e R s m args below meth c H locs cells slots Q (F0 m pc ls st0) := by
  intro T hT X
  rcases hr T hT X with ⟨v, st₀, t, T', L, h0, X', hL, e1, e2, ⟨⟨u, hv, hp, hb⟩, hF⟩, st⟩ | ⟨q, st₀, t, T', L, E, ce, h0, X', hL, e1, e2, ⟨u, hp, hb, hF⟩, hce, hcv, hcl, st⟩
  · cases hv
    obtain ⟨k1, k2, k3⟩ := vx_keep h0 e1 hS hA hf hL hF
    obtain ⟨t2, a1, b1⟩ := kk u t T'.heap (locs ++ L) e1.symm (by rw [← e2]; exact X'.warmed.alike) hp hb k1 k2 k3 T' rfl X'
    exact ⟨t2, st t2 a1, b1⟩
  · obtain ⟨k1, k2, k3⟩ := vx_keep h0 e1 hS hAX hf hL hF
    obtain ⟨t2, a1, b1⟩ := kx E ce q u t T'.heap (locs ++ L) e1.symm (by rw [← e2]; exact X'.warmed.alike) hp hb k1 k2 k3 (by rw [e1]; exact hce) hcv hcl T' rfl X'
    exact ⟨t2, st.trans a1, b1⟩
/-- caught by the row x of this method's table; the rows ahead don't take it -/
theorem vx_catch {own name : String} {E : String} {ce : Cell} {q : Addr} (hown : s.vm.findClass own = some m.cls) (pre : List ExceptionTableEntry) (x : ExceptionTableEntry) (suf : List ExceptionTableEntry) (hsplit : c.exceptionTable.toList = pre ++ x :: suf)
    (hpass : ∀ z ∈ pre, covers z pc = false ∨ (z.catchType ≠ 0 ∧ ∃ nm : String, (Cond.classLink own z.catchType nm).before args s = true ∧ va_Nc E nm s)) (hx : covers x pc = true) (h0 : x.catchType ≠ 0)
    (hlink : (Cond.classLink own x.catchType name).before args s = true) (hcast : (Cond.castable E name).before args s = true) (hcell : H[q]? = some ce) (hv : ce.vm = .none) (hcl : s.vm.findClass E = some ce.cls)
    (kk : W p l e R s m args below meth c H locs cells slots Q (F0 m x.handlerPc ls [.ref q])) : vx_W p l e R s m args below meth c H locs cells slots Q (F0 m pc ls rest) q := by
  intro T hT X
  have hpl : e.platform.magicAccessors = ({} : Platform).magicAccessors := by rw [X.admits.platform]
  obtain ⟨c3, c4, hc3, hc4, hasg⟩ := Cond.castable_spec hcast
  cases Option.some.inj (hc3.symm.trans hcl)
  obtain ⟨c5, hc5, hcl5⟩ := Cond.classLink_spec hown hlink e.platform hpl
  cases Option.some.inj (hc4.symm.trans hc5)
  obtain ⟨vm', X', st⟩ := X.thenCaughtThrough q (g := F0 m pc ls rest) rfl (Steps.refl _) (by rw [hT]; exact hcell) (by rw [hv]; rfl) (by obtain ⟨k9, h9, -⟩ := Vm.findClass_spec hcl; exact ⟨k9, h9⟩) pre x suf hsplit
    (fun z hz => by
      rcases hpass z hz with h | ⟨hz0, nm, hl1, hn1⟩
      · exact Or.inl h
      · obtain ⟨c6, hc6, hcl6⟩ := Cond.classLink_spec hown hl1 e.platform hpl
        obtain ⟨a8, b8, h1, h2, h3⟩ := hn1
        cases Option.some.inj (h1.symm.trans hcl)
        cases Option.some.inj (h2.symm.trans hc6)
        exact Or.inr ⟨hz0, _, hcl6, h3⟩) hx (Or.inr ⟨h0, c4, hcl5, hasg⟩)
  obtain ⟨t, a1, b1⟩ := kk (T.setVm vm') hT X'
  exact ⟨t, st.trans a1, b1⟩
end Rows
section Ends
variable {p : Program} {l : Launch} {e : Env} {R : Room} {s : State} {m : MethodId} {args : Array Value} {below : List Frame} {meth : Method} {c : Code} {H : Heap} {locs : List Loc} {cells slots : Nat} {Q : State → Prop}
variable {mc ms : Nat} {free : Addr → Prop} {A0 A1 : Nat → Prop} {H0 : Heap} {a : Array Value} {ls : Array Slot} {st0 rest : List Value}
variable {Qc : Array Value → State → Outcome → State → Prop} {XC : String → State → State → Prop}
/-- what a body that may throw owes at its end -/
def vx_MQ (below : List Frame) (Qc : Array Value → State → Outcome → State → Prop) (XC : String → State → State → Prop) (a : Array Value) (s : State) (mc ms : Nat) (free : Addr → Prop) : State → Prop := fun t =>
  ∃ o, t.status = .running ∧ Ended t below o ∧ vx_Q Qc XC mc ms free a s o t
theorem vx_ret {g : JFrame} {mc ms : Nat} (k : W p l e R s m args below meth c H locs cells slots (MQ below Qc args s mc ms free) g) : W p l e R s m args below meth c H locs cells slots (vx_MQ below Qc XC args s mc ms free) g := by
  intro T hT X
  obtain ⟨t, a1, o, b1, b2, b3, b4⟩ := k T hT X
  exact ⟨t, a1, o, b1, b2, Or.inl ⟨b3, b4⟩⟩
/-- not caught here: it goes on to the caller -/
theorem vx_widen {g : JFrame} {q : Addr} {k n : Nat} (h1 : cells ≤ k) (h2 : slots ≤ n) (kk : vx_W p l e R s m args below meth c H locs k n Q g q) : vx_W p l e R s m args below meth c H locs cells slots Q g q := fun T hT X => kk T hT (stand_widen X h1 h2)
theorem vx_out {pc : Nat} {E : String} {ce : Cell} {q : Addr} {mc ms : Nat} (hout : ∀ x ∈ c.exceptionTable.toList, covers x pc = false) (hlocks : meth.locks = false) (hcell : H[q]? = some ce) (hv : ce.vm = .none) (hcl : s.vm.findClass E = some ce.cls)
    (hx : ∀ t : State, t.heap = H → s.vm.Alike t.vm → XC E s t) (hf : ∀ z ∈ locs, free z.base) (hc : cells ≤ mc) (hs : slots ≤ ms) :
    vx_W p l e R s m args below meth c H locs cells slots (vx_MQ below Qc XC args s mc ms free) (F0 m pc ls rest) q := by
  intro T hT X
  obtain ⟨st1, hrun, hend, hW, hsm⟩ := X.leaveThrown q (g := F0 m pc ls rest) rfl rfl rfl hout hlocks
  have hcell9 : (T.setFrames (.throwing q :: below)).heap[q]? = some ce := by
    show T.heap[q]? = some ce
    rw [hT]; exact hcell
  exact ⟨_, st1, .threw q, hrun, hend, Or.inr ⟨q, rfl, E, ce, locs, hx _ hT hW.alike, hcell9, hv, hcl, hW, hsm.mono hc hs, hf⟩⟩
theorem vx_frame {U : State} {k n : Nat} (h : s.sameButNew ({ U with vm := s.vm } : State) locs k n) : s.heap.size ≤ U.heap.size ∧ ∀ q : Nat, q < s.heap.size → (∀ z ∈ locs, z.base ≠ q) → U.heap[q]? = s.heap[q]? := by
  obtain ⟨-, h2, -, -, -, h6⟩ := h
  refine ⟨h2, fun q hq hz => ?_⟩
  obtain ⟨c9, e1, e2, e3, e4⟩ := h6 q _ (Array.getElem?_eq_getElem hq)
  have hs : c9.slots = (s.heap[q]).slots := Array.ext_getElem? fun i => e4 i fun hm => hz _ hm rfl
  have h9 : c9 = s.heap[q] := by
    rw [hs] at e2
    exact e2
  have e5 : U.heap[q]? = some c9 := e1
  rw [e5, h9, Array.getElem?_eq_getElem hq]
/-- the words of a throw but the four that speak of the heap -/
def vx_no (w : Cond) : Bool := decide (w ≠ .isRef (.static Bundle.tN "UNASSIGNED_STACK" Bundle.steD)) && decide (w ≠ .isRef (.static Bundle.tN "SUPPRESSED_SENTINEL" Bundle.listD)) && decide (w ≠ .laysStatic Bundle.tN "UNASSIGNED_STACK" Bundle.steD) && decide (w ≠ .laysStatic Bundle.tN "SUPPRESSED_SENTINEL" Bundle.listD)
def vx_at0 (own : String) (ic : Nat) (X : String) (names : List String) : List Cond := (Bundle.ownAtoms0 own ic X names).filter vx_no
def vx_atS (own : String) (ic : Nat) (X : String) (names : List String) : List Cond := (Bundle.ownAtoms own ic X names).filter vx_no
/-- a word that the tables alone decide, or a good one -/
def vx_ot (w : Cond) : Bool := w.onTables || goodWord w
theorem vx_ot_at {args a' : Array Value} {s U : State} {w : Cond} (hW : s.WarmedH U.vm) (hvm : s.vm = U.vm) (hg : vx_ot w = true) (h : w.before args s = true) : w.before a' U = true := by
  simp only [vx_ot, Bool.or_eq_true] at hg
  rcases hg with hg | hg
  · exact va_tabs hg hvm h
  · exact word_at hW (good_of_word hg) h
/-- a list's words: the good ones out of the method's own list, the others by premises of their own -/
theorem vx_hat {args : Array Value} {s : State} {L B : List Cond} (h1 : ∀ w ∈ L.filter goodWord, w.before args s = true) (h2 : ∀ w ∈ L.filter (fun w => !goodWord w), w ∈ B) (h3 : ∀ w ∈ B, w.before args s = true) : ∀ w ∈ L, w.before args s = true := by
  intro w hw
  by_cases g : goodWord w = true
  · exact h1 w (List.mem_filter.mpr ⟨hw, g⟩)
  · refine h3 w (h2 w (List.mem_filter.mpr ⟨hw, ?_⟩))
    show (!goodWord w) = true
    cases hgw : goodWord w
    · rfl
    · exact absurd hgw g
theorem vx_c {args : Array Value} {s : State} {w : Cond} {B : List Cond} (h : w.before args s = true) (t : ∀ w ∈ B, w.before args s = true) : ∀ w' ∈ w :: B, w'.before args s = true := fun w' h' => (List.mem_cons.mp h').elim (fun e => by rw [e]; exact h) (t w')
theorem vx_n {args : Array Value} {s : State} : ∀ w ∈ ([] : List Cond), w.before args s = true := fun _ h => nomatch h
theorem vx_own {args : Array Value} {s : State} {L : List Cond} (h1 : ∀ w ∈ L.filter vx_no, w.before args s = true)
    (hU : (Cond.isRef (.static Bundle.tN "UNASSIGNED_STACK" Bundle.steD)).before args s = true) (hN : (Cond.isRef (.static Bundle.tN "SUPPRESSED_SENTINEL" Bundle.listD)).before args s = true)
    (lU : (Cond.laysStatic Bundle.tN "UNASSIGNED_STACK" Bundle.steD).before args s = true) (lN : (Cond.laysStatic Bundle.tN "SUPPRESSED_SENTINEL" Bundle.listD).before args s = true) : ∀ w ∈ L, w.before args s = true := by
  intro w hw
  by_cases e1 : w = .isRef (.static Bundle.tN "UNASSIGNED_STACK" Bundle.steD)
  · rw [e1]; exact hU
  · by_cases e2 : w = .isRef (.static Bundle.tN "SUPPRESSED_SENTINEL" Bundle.listD)
    · rw [e2]; exact hN
    · by_cases e3 : w = .laysStatic Bundle.tN "UNASSIGNED_STACK" Bundle.steD
      · rw [e3]; exact lU
      · by_cases e4 : w = .laysStatic Bundle.tN "SUPPRESSED_SENTINEL" Bundle.listD
        · rw [e4]; exact lN
        · exact h1 w (List.mem_filter.mpr ⟨hw, by unfold vx_no; rw [decide_eq_true e1, decide_eq_true e2, decide_eq_true e3, decide_eq_true e4]; rfl⟩)
/-- where a static field lies, its class's statics cell in H -/
def vx_L (C n d : String) (A : Nat → Prop) (U : State) (H : Heap) : Prop := ∃ (c : ClassId) (k : Class) (i : Nat) (f : Field) (a : Nat) (cell : Cell), U.vm.findClass C = some c ∧ U.fieldFound? C n d = some (c, k, i, f) ∧ f.isStatic = true ∧ k.statics = some a ∧ H[a]? = some cell ∧ cell.vm.isStatics = true ∧ cell.cls = c ∧ f.slot < cell.slots.size ∧ k.staticTypes[f.slot]? = some f.type ∧ ¬ A a
theorem vx_L.moved {C n d : String} {A : Nat → Prop} {u U : State} {H : Heap} (hvm : u.vm.Alike U.vm) (h : vx_L C n d A u H) : vx_L C n d A U H := by
  obtain ⟨c, k, i, f, a, cell, h1, h2, h3, h4, h5, h6, h7, h8, h9, h10⟩ := h
  obtain ⟨k', hi', he⟩ := State.fieldFound?_setVm hvm h2
  exact ⟨c, k', i, f, a, cell, by rw [hvm.findClass]; exact h1, hi', h3, by rw [he]; exact h4, h5, h6, h7, h8, by rw [he]; exact h9, h10⟩
theorem vx_L.kept {C n d : String} {A : Nat → Prop} {U : State} {H H1 : Heap} (h : vx_L C n d A U H) (hq : ∀ a : Nat, a < H.size → ¬ A a → H1[a]? = H[a]?) : vx_L C n d A U H1 := by
  obtain ⟨c, k, i, f, a, cell, h1, h2, h3, h4, h5, h6, h7, h8, h9, h10⟩ := h
  exact ⟨c, k, i, f, a, cell, h1, h2, h3, h4, by rw [hq a (Array.getElem?_eq_some_iff.mp h5).1 h10]; exact h5, h6, h7, h8, h9, h10⟩
theorem vx_L.narrow {C n d : String} {A B : Nat → Prop} {U : State} {H : Heap} (h : vx_L C n d A U H) (hAB : ∀ q, B q → A q) : vx_L C n d B U H := by
  obtain ⟨c, k, i, f, a, cell, h1, h2, h3, h4, h5, h6, h7, h8, h9, h10⟩ := h
  exact ⟨c, k, i, f, a, cell, h1, h2, h3, h4, h5, h6, h7, h8, h9, fun z => h10 (hAB _ z)⟩
theorem vx_L.word {C n d : String} {A : Nat → Prop} {s : State} {args : Array Value} (h : vx_L C n d A s s.heap) : (Cond.laysStatic C n d).before args s = true := by
  obtain ⟨c, k, i, f, a, cell, h1, h2, h3, h4, h5, h6, h7, h8, h9, -⟩ := h
  show (Cond.laysStatic C n d).holds args s none s [] = true
  exact Cond.laysStatic_of h1 h2 h3 h4 h5 h6 h7 h8 h9
/-- .. and what it holds: null or some reference -/
def vx_Zq (C n d : String) (A : Nat → Prop) (U : State) (H : Heap) : Prop := va_Zq C n d A U H ∧ vx_L C n d A U H
theorem vx_Zq.moved {C n d : String} {A : Nat → Prop} {u U : State} {H : Heap} (hvm : u.vm.Alike U.vm) (h : vx_Zq C n d A u H) : vx_Zq C n d A U H := ⟨va_Zq.moved hvm h.1, vx_L.moved hvm h.2⟩
theorem vx_Zq.kept {C n d : String} {A : Nat → Prop} {U : State} {H H1 : Heap} (h : vx_Zq C n d A U H) (hq : ∀ a : Nat, a < H.size → ¬ A a → H1[a]? = H[a]?) : vx_Zq C n d A U H1 := ⟨va_Zq.kept h.1 hq, vx_L.kept h.2 hq⟩
theorem vx_Zq.narrow {C n d : String} {A B : Nat → Prop} {U : State} {H : Heap} (h : vx_Zq C n d A U H) (hAB : ∀ q, B q → A q) : vx_Zq C n d B U H := ⟨va_Zq.narrow h.1 hAB, vx_L.narrow h.2 hAB⟩
theorem vx_Zqof {args : Array Value} {s : State} {C n d : String} {A : Nat → Prop} (hl : (Cond.laysStatic C n d).before args s = true) (hini : (Cond.initialized C).before args s = true) (h : (Cond.isRef (.static C n d)).before args s = true) (hA : ∀ a : Nat, a < s.heap.size → ¬ A a) : vx_Zq C n d A s s.heap := by
  refine ⟨va_Zqof hl hini h hA, ?_⟩
  obtain ⟨c, k, i, f, a, cell, h1, h2, h3, h4, h5, h6, h7, h8, h9⟩ := Cond.laysStatic_spec hl
  exact ⟨c, k, i, f, a, cell, h1, h2, h3, h4, h5, h6, h7, h8, h9, hA a (Array.getElem?_eq_some_iff.mp h5).1⟩
theorem vx_isRef {C n d : String} {v : Value} {A : Nat → Prop} {s : State} {args : Array Value} (h : va_Z C n d v A s s.heap) (hv : v.isRef = true) : (Cond.isRef (.static C n d)).before args s = true := by
  obtain ⟨cf, kf, fi, f, a, cell, h1, h2, h3, h4, h5, h6, h7, -⟩ := h
  have he : (Term.static C n d).eval args s none [] s = some v := by
    simp [Term.eval, State.fieldNamed?, h1, h2, h4, h5, h6, h7]
  simp only [Cond.before, Cond.holds, Cond.value, he]
  cases v <;> simp_all [Value.isRef]
theorem vx_isRefq {C n d : String} {A : Nat → Prop} {s : State} {args : Array Value} (h : va_Zq C n d A s s.heap) : (Cond.isRef (.static C n d)).before args s = true := by
  rcases h with h | ⟨t, h⟩
  · exact vx_isRef h rfl
  · exact vx_isRef h rfl
/-- the same frame, seen from here: as if the method were called anew in this heap -/
theorem vx_rebase {T : State} (X : Stand p l e R s m args below meth c T locs cells slots) {R' : Room} (hf : R'.frames ≤ R.frames) (hl : R'.locals ≤ R.locals) (hc : cells + R'.cells ≤ R.cells) (hs : slots + R'.slots ≤ R.slots) :
    Stand p l e R' ((T.setVm s.vm).setFrames (.invoking m args :: below)) m args below meth c T [] 0 0 := by
  have htop : (T.setVm s.vm).topJava?.isSome := X.here.top
  have hF : ((T.setVm s.vm).setFrames (.invoking m args :: below)).frames = .invoking m args :: below := State.frames_setFrames _ (State.cur_lt_of_top htop)
  obtain ⟨g₀, hg0⟩ := Option.isSome_iff_exists.mp htop
  obtain ⟨r, hr⟩ := State.topJava?_eq_some.mp hg0
  have hl9 : e.platform.stackLimits (T.setVm s.vm).me = e.platform.stackLimits s.me := X.limits
  have hb9 : (T.setVm s.vm).me.stackBytes = s.me.stackBytes := X.bytes
  refine ⟨X.admits, X.cas, X.clock, hF, ?_, X.hears, X.method, X.code, X.here, X.tail, X.warmed, ?_, ?_, ?_⟩
  · have h := X.room
    have hU : ((T.setVm s.vm).setFrames (.invoking m args :: below)).localsInUse = s.localsInUse := by
      rw [State.localsInUse_invoking hF (meth := meth) (c := c) X.method X.code, State.localsInUse_invoking X.frames X.method X.code]
    simp only [State.hasRoom, Bool.and_eq_true, decide_eq_true_eq] at h ⊢
    obtain ⟨⟨⟨⟨h1, h2, h3, h4, h5, h6⟩, h7⟩, h8⟩, h9⟩ := h
    rw [X.frames, List.length_cons] at h2 h3
    have q1 := X.heapSize
    have q2 := X.used
    simp only [hF, hU, List.length_cons, State.stackLimits_setFrames, State.stackBytes_setFrames, hl9, hb9]
    refine ⟨⟨⟨⟨by omega, by omega, by omega, by omega, by omega, h6⟩, ?_⟩, ?_⟩, X.book⟩
    · show T.heap.size + R'.cells ≤ e.platform.maxCells
      omega
    · show T.slotsUsed + R'.slots ≤ e.platform.maxSlots
      omega
  · rw [State.stackLimits_setFrames]; rfl
  · rw [State.stackBytes_setFrames]; rfl
  · refine ⟨?_, Nat.le_refl _, Nat.le_refl _, ?_, ?_, fun a c9 h9 => ⟨c9, h9, rfl, rfl, fun _ _ => rfl⟩⟩
    · obtain ⟨t, ht, -⟩ := State.frames_cons hr
      show T.setVm s.vm = { ((T.setVm s.vm).setFrames (.invoking m args :: below)).setFrames (T.setVm s.vm).frames with heap := T.heap, slotsUsed := T.slotsUsed }
      rw [State.setFrames_setFrames, State.setFrames_self ht]
      rfl
    · show T.slotsUsed = T.slotsUsed + ((T.heap.toList.drop T.heap.size).map (·.slots.size)).sum
      rw [List.drop_eq_nil_of_le (Nat.le_of_eq Array.length_toList)]
      rfl
    · show ((T.heap.toList.drop T.heap.size).map (·.slots.size)).sum ≤ 0
      rw [List.drop_eq_nil_of_le (Nat.le_of_eq Array.length_toList)]
      exact Nat.le_refl _
/-- 'throw new E()': new; dup; invokespecial; athrow -/
theorem vx_throw0 {cc : ByteArray} {pc : Nat} (hexec : p.tables.exec = Jvm.exec) (hb : c.code = cc) (hl : l.stackTraces = false) {own cls : String} {names : List String} {ik ic mc ms : Nat} {A : Nat → Prop}
    (hown : s.vm.findClass own = some m.cls) (hcls : Bundle.fit cls = true) (hnames : ∀ n ∈ names, Bundle.fit n = true)
    (hk : (Cond.classLink own ik cls).before args s = true) (hini : (Cond.initialized cls).before args s = true) (hat : ∀ w ∈ vx_at0 own ic cls names, w.before args s = true)
    (hgood : ∀ w ∈ Cond.classLink own ik cls :: Cond.initialized cls :: vx_at0 own ic cls names, vx_ot w = true)
    (hU : vx_Zq Bundle.tN "UNASSIGNED_STACK" Bundle.steD A s s.heap) (hN : vx_Zq Bundle.tN "SUPPRESSED_SENTINEL" Bundle.listD A s s.heap) (hS : va_S A s.heap H locs) (hsize : ls.size = c.maxLocals)
    (d0 : decode cc pc = .ok (.new ik, 3)) (d3 : decode cc (pc + 3) = .ok (.dup, 1)) (d4 : decode cc (pc + 4) = .ok (.invokespecial ic, 3)) (d7 : decode cc (pc + 7) = .ok (.athrow, 1))
    (hout : ∀ x ∈ c.exceptionTable.toList, covers x (pc + 7) = false)
    (hRframes : names.length + 3 < R.frames) (hRlocals : (rest.map fun v => v.category).sum + (13 * (names.length + 1) + 42) ≤ R.locals) (hRcells : cells + 1 ≤ R.cells) (hRslots : slots + 6 ≤ R.slots) (hlocks : meth.locks = false)
    (hx : ∀ t : State, s.vm.Alike t.vm → H.size ≤ t.heap.size → (∀ q : Nat, q < H.size → t.heap[q]? = H[q]?) → XC cls s t)
    (hf : ∀ z ∈ locs, free z.base) (hc : cells + 1 ≤ mc) (hs : slots + 6 ≤ ms) :
    W p l e R s m args below meth c H locs cells slots (vx_MQ below Qc XC args s mc ms free) (F0 m pc ls rest) := by
  intro T hT X
  have htr : e.platform.stackTraces = false := (show e.platform.stackTraces = l.stackTraces by rw [X.admits.platform]).trans hl
  have Y := vx_rebase X (R' := { frames := R.frames, locals := R.locals, cells := 1, slots := 6 }) (Nat.le_refl _) (Nat.le_refl _) hRcells hRslots
  obtain ⟨s', hA⟩ : ∃ z, z = (T.setVm s.vm).setFrames (.invoking m args :: below) := ⟨_, rfl⟩
  rw [← hA] at Y
  have hvm : s'.vm = s.vm := by rw [hA]; rfl
  have hhp : s'.heap = H := by rw [hA]; exact hT
  have hW0 : s.WarmedH s'.vm := by rw [hvm]; exact State.WarmedH.refl s
  have hat' : ∀ w ∈ vx_at0 own ic cls names, w.before args s' = true := fun w hw => vx_ot_at hW0 hvm.symm (hgood w (List.mem_cons_of_mem _ (List.mem_cons_of_mem _ hw))) (hat w hw)
  have hk' : (Cond.classLink own ik cls).before args s' = true := vx_ot_at hW0 hvm.symm (hgood _ List.mem_cons_self) hk
  have hini' : (Cond.initialized cls).before args s' = true := vx_ot_at hW0 hvm.symm (hgood _ (List.mem_cons_of_mem _ List.mem_cons_self)) hini
  have hU' : vx_Zq Bundle.tN "UNASSIGNED_STACK" Bundle.steD A s' s'.heap := by rw [hhp]; exact vx_Zq.moved hW0.alike (hU.kept hS.2.1)
  have hN' : vx_Zq Bundle.tN "SUPPRESSED_SENTINEL" Bundle.listD A s' s'.heap := by rw [hhp]; exact vx_Zq.moved hW0.alike (hN.kept hS.2.1)
  have h : ∀ w ∈ Bundle.ownAtoms0 own ic cls names, w.before args s' = true := vx_own hat' (vx_isRefq hU'.1) (vx_isRefq hN'.1) hU'.2.word hN'.2.word
  have hown' : s'.vm.findClass own = some m.cls := by rw [hvm]; exact hown
  have hins : (Cond.instantiable cls 6).before args s' = true := h _ (by simp [Bundle.ownAtoms0])
  obtain ⟨vm₁, cX, kX, hfX, hkX, -, -, X₁, st1⟩ := Y.newCold hexec (own := own) (C := cls) (index := ik) (n := 6) hown' hk' hins hini'
    (g := F0 m pc ls rest) rfl (by rw [hb]; exact d0) (Nat.le_refl _) (Nat.le_refl _)
  generalize hT1 : (T.setVm vm₁).pushCell { cls := cX, slots := kX.instanceTypes.map defaultValue, vm := .none } = T1 at X₁ st1
  have hcat : (Value.ref T.heap.size).category = 1 := rfl
  have hcellA : T1.heap[T.heap.size]? = some (freshCell cX kX) := by rw [← hT1]; exact State.heap_pushCell_size _ _
  have d3' : decode c.code (pc + 3) = .ok (.dup, 1) := by rw [hb]; exact d3
  obtain ⟨U, hsteps, hrun, hend, hW, hsame, ce, hce, hO⟩ := X₁.ctorThrow0 hexec htr (own := own) (cls := cls) (names := names) (ic := ic) hown' hcls hnames h (fun x hx => nomatch hx) hfX hkX hcellA (by rw [hhp, hT]; exact Nat.le_refl _)
    (g := { method := m, pc := pc + 4, locals := ls, stack := .ref T.heap.size :: .ref T.heap.size :: rest, locked := none }) rfl hsize rfl rfl (rest := rest) rfl
    (by rw [hb]; exact d4) (by rw [hb]; exact d7) hout hRframes (by simp only [List.map_cons, List.sum_cons, hcat]; omega) hlocks
  obtain ⟨f1, f2⟩ := vx_frame hsame
  rw [hhp] at f1 f2
  have hWs : s.WarmedH U.vm := State.WarmedH.trans hW0 hW
  have hcl : s.vm.findClass cls = some ce.cls := by
    have h9 := hO.cls
    rw [hvm] at h9
    exact h9
  have hall : s.sameButNew ({ U with vm := s.vm } : State) locs mc ms := by
    subst hA
    obtain ⟨e1, e2⟩ := hsame
    rw [State.setFrames_setFrames] at e1
    have h2 : (T.setVm s.vm).sameButNew ({ U with vm := s.vm } : State) [] (0 + 1) (0 + 6) := ⟨e1, e2⟩
    have h3 := X.same.trans h2
    rw [List.append_nil] at h3
    exact h3.mono hc hs
  refine ⟨U, ?_, .threw T.heap.size, hrun, hend, Or.inr ⟨T.heap.size, rfl, cls, ce, locs, hx U hWs.alike f1 (fun q hq => f2 q hq (fun z hz => nomatch hz)), hce, hO.vm, hcl, hWs, hall, hf⟩⟩
  refine st1 _ ?_
  show Steps p.tables e below (T1.setTop { method := m, pc := pc + 3, locals := ls, stack := .ref T.heap.size :: rest, locked := none }) _
  jvm_step X₁.here [X₁.here.top, hexec, d3', Value.category]
  exact hsteps
/-- 'throw new E("text")': new; dup; ldc; invokespecial; athrow -/
theorem vx_throwS {cc : ByteArray} {pc : Nat} (hexec : p.tables.exec = Jvm.exec) (hb : c.code = cc) (hl : l.stackTraces = false) {own cls text : String} {names : List String} {ik is ic mc ms sa : Nat} {A : Nat → Prop}
    (hown : s.vm.findClass own = some m.cls) (hcls : Bundle.fit cls = true) (hnames : ∀ n ∈ names, Bundle.fit n = true)
    (hk : (Cond.classLink own ik cls).before args s = true) (hini : (Cond.initialized cls).before args s = true) (hstr : vk_R own is text sa s) (hat : ∀ w ∈ vx_atS own ic cls names, w.before args s = true)
    (hgood : ∀ w ∈ Cond.classLink own ik cls :: Cond.initialized cls :: vx_atS own ic cls names, vx_ot w = true)
    (hU : vx_Zq Bundle.tN "UNASSIGNED_STACK" Bundle.steD A s s.heap) (hN : vx_Zq Bundle.tN "SUPPRESSED_SENTINEL" Bundle.listD A s s.heap) (hS : va_S A s.heap H locs) (hsize : ls.size = c.maxLocals)
    (d0 : decode cc pc = .ok (.new ik, 3)) (d3 : decode cc (pc + 3) = .ok (.dup, 1)) (d4 : decode cc (pc + 4) = .ok (.ldc is, 2)) (d6 : decode cc (pc + 6) = .ok (.invokespecial ic, 3)) (d9 : decode cc (pc + 9) = .ok (.athrow, 1))
    (hout : ∀ x ∈ c.exceptionTable.toList, covers x (pc + 9) = false)
    (hRframes : names.length + 3 < R.frames) (hRlocals : (rest.map fun v => v.category).sum + (13 * (names.length + 1) + 43) ≤ R.locals) (hRcells : cells + 1 ≤ R.cells) (hRslots : slots + 6 ≤ R.slots) (hlocks : meth.locks = false)
    (hx : ∀ t : State, s.vm.Alike t.vm → H.size ≤ t.heap.size → (∀ q : Nat, q < H.size → t.heap[q]? = H[q]?) → XC cls s t)
    (hf : ∀ z ∈ locs, free z.base) (hc : cells + 1 ≤ mc) (hs : slots + 6 ≤ ms) :
    W p l e R s m args below meth c H locs cells slots (vx_MQ below Qc XC args s mc ms free) (F0 m pc ls rest) := by
  intro T hT X
  have htr : e.platform.stackTraces = false := (show e.platform.stackTraces = l.stackTraces by rw [X.admits.platform]).trans hl
  have Y := vx_rebase X (R' := { frames := R.frames, locals := R.locals, cells := 1, slots := 6 }) (Nat.le_refl _) (Nat.le_refl _) hRcells hRslots
  obtain ⟨s', hA⟩ : ∃ z, z = (T.setVm s.vm).setFrames (.invoking m args :: below) := ⟨_, rfl⟩
  rw [← hA] at Y
  have hvm : s'.vm = s.vm := by rw [hA]; rfl
  have hhp : s'.heap = H := by rw [hA]; exact hT
  have hW0 : s.WarmedH s'.vm := by rw [hvm]; exact State.WarmedH.refl s
  have hat' : ∀ w ∈ vx_atS own ic cls names, w.before args s' = true := fun w hw => vx_ot_at hW0 hvm.symm (hgood w (List.mem_cons_of_mem _ (List.mem_cons_of_mem _ hw))) (hat w hw)
  have hk' : (Cond.classLink own ik cls).before args s' = true := vx_ot_at hW0 hvm.symm (hgood _ List.mem_cons_self) hk
  have hini' : (Cond.initialized cls).before args s' = true := vx_ot_at hW0 hvm.symm (hgood _ (List.mem_cons_of_mem _ List.mem_cons_self)) hini
  have hU' : vx_Zq Bundle.tN "UNASSIGNED_STACK" Bundle.steD A s' s'.heap := by rw [hhp]; exact vx_Zq.moved hW0.alike (hU.kept hS.2.1)
  have hN' : vx_Zq Bundle.tN "SUPPRESSED_SENTINEL" Bundle.listD A s' s'.heap := by rw [hhp]; exact vx_Zq.moved hW0.alike (hN.kept hS.2.1)
  have h : ∀ w ∈ Bundle.ownAtoms own ic cls names, w.before args s' = true := vx_own hat' (vx_isRefq hU'.1) (vx_isRefq hN'.1) hU'.2.word hN'.2.word
  have hown' : s'.vm.findClass own = some m.cls := by rw [hvm]; exact hown
  have hins : (Cond.instantiable cls 6).before args s' = true := h _ (by simp [Bundle.ownAtoms])
  obtain ⟨vm₁, cX, kX, hfX, hkX, -, -, X₁, st1⟩ := Y.newCold hexec (own := own) (C := cls) (index := ik) (n := 6) hown' hk' hins hini'
    (g := F0 m pc ls rest) rfl (by rw [hb]; exact d0) (Nat.le_refl _) (Nat.le_refl _)
  generalize hT1 : (T.setVm vm₁).pushCell { cls := cX, slots := kX.instanceTypes.map defaultValue, vm := .none } = T1 at X₁ st1
  have hcat : (Value.ref T.heap.size).category = 1 := rfl
  have hcellA : T1.heap[T.heap.size]? = some (freshCell cX kX) := by rw [← hT1]; exact State.heap_pushCell_size _ _
  have d3' : decode c.code (pc + 3) = .ok (.dup, 1) := by rw [hb]; exact d3
  have d4' : decode c.code (pc + 4) = .ok (.ldc is, 2) := by rw [hb]; exact d4
  have hstr' : vk_R own is text sa s' := vk_R.warm hW0 hstr
  obtain ⟨U, hsteps, hrun, hend, hW, hsame, ce, hce, hO⟩ := X₁.ctorThrowS hexec htr (own := own) (cls := cls) (names := names) (ic := ic) hown' hcls hnames h (fun x hx => nomatch hx) hfX hkX hcellA (by rw [hhp, hT]; exact Nat.le_refl _) (msg := .ref sa) rfl
    (g := { method := m, pc := pc + 6, locals := ls, stack := .ref sa :: .ref T.heap.size :: .ref T.heap.size :: rest, locked := none }) rfl hsize rfl rfl (rest := rest) rfl
    (by rw [hb]; exact d6) (by rw [hb]; exact d9) hout hRframes (by simp only [List.map_cons, List.sum_cons, hcat]; omega) hlocks
  obtain ⟨f1, f2⟩ := vx_frame hsame
  rw [hhp] at f1 f2
  have hWs : s.WarmedH U.vm := State.WarmedH.trans hW0 hW
  have hcl : s.vm.findClass cls = some ce.cls := by
    have h9 := hO.cls
    rw [hvm] at h9
    exact h9
  have hall : s.sameButNew ({ U with vm := s.vm } : State) locs mc ms := by
    subst hA
    obtain ⟨e1, e2⟩ := hsame
    rw [State.setFrames_setFrames] at e1
    have h2 : (T.setVm s.vm).sameButNew ({ U with vm := s.vm } : State) [] (0 + 1) (0 + 6) := ⟨e1, e2⟩
    have h3 := X.same.trans h2
    rw [List.append_nil] at h3
    exact h3.mono hc hs
  refine ⟨U, ?_, .threw T.heap.size, hrun, hend, Or.inr ⟨T.heap.size, rfl, cls, ce, locs, hx U hWs.alike f1 (fun q hq => f2 q hq (fun z hz => nomatch hz)), hce, hO.vm, hcl, hWs, hall, hf⟩⟩
  refine st1 _ ?_
  show Steps p.tables e below (T1.setTop { method := m, pc := pc + 3, locals := ls, stack := .ref T.heap.size :: rest, locked := none }) _
  jvm_step X₁.here [X₁.here.top, hexec, d3', Value.category]
  exact X₁.ldcString hexec (own := own) (text := text) (index := is) (a := sa) hown' hstr'.1 hstr'.2
    (g := { method := m, pc := pc + 4, locals := ls, stack := .ref T.heap.size :: .ref T.heap.size :: rest, locked := none }) rfl d4' _ hsteps
/-- 'throw new E("text")', the text by a wide index -/
theorem vx_throwSW {cc : ByteArray} {pc : Nat} (hexec : p.tables.exec = Jvm.exec) (hb : c.code = cc) (hl : l.stackTraces = false) {own cls text : String} {names : List String} {ik is ic mc ms sa : Nat} {A : Nat → Prop}
    (hown : s.vm.findClass own = some m.cls) (hcls : Bundle.fit cls = true) (hnames : ∀ n ∈ names, Bundle.fit n = true)
    (hk : (Cond.classLink own ik cls).before args s = true) (hini : (Cond.initialized cls).before args s = true) (hstr : vk_R own is text sa s) (hat : ∀ w ∈ vx_atS own ic cls names, w.before args s = true)
    (hgood : ∀ w ∈ Cond.classLink own ik cls :: Cond.initialized cls :: vx_atS own ic cls names, vx_ot w = true)
    (hU : vx_Zq Bundle.tN "UNASSIGNED_STACK" Bundle.steD A s s.heap) (hN : vx_Zq Bundle.tN "SUPPRESSED_SENTINEL" Bundle.listD A s s.heap) (hS : va_S A s.heap H locs) (hsize : ls.size = c.maxLocals)
    (d0 : decode cc pc = .ok (.new ik, 3)) (d3 : decode cc (pc + 3) = .ok (.dup, 1)) (d4 : decode cc (pc + 4) = .ok (.ldc_w is, 3)) (d7 : decode cc (pc + 7) = .ok (.invokespecial ic, 3)) (d10 : decode cc (pc + 10) = .ok (.athrow, 1))
    (hout : ∀ x ∈ c.exceptionTable.toList, covers x (pc + 10) = false)
    (hRframes : names.length + 3 < R.frames) (hRlocals : (rest.map fun v => v.category).sum + (13 * (names.length + 1) + 43) ≤ R.locals) (hRcells : cells + 1 ≤ R.cells) (hRslots : slots + 6 ≤ R.slots) (hlocks : meth.locks = false)
    (hx : ∀ t : State, s.vm.Alike t.vm → H.size ≤ t.heap.size → (∀ q : Nat, q < H.size → t.heap[q]? = H[q]?) → XC cls s t)
    (hf : ∀ z ∈ locs, free z.base) (hc : cells + 1 ≤ mc) (hs : slots + 6 ≤ ms) :
    W p l e R s m args below meth c H locs cells slots (vx_MQ below Qc XC args s mc ms free) (F0 m pc ls rest) := by
  intro T hT X
  have htr : e.platform.stackTraces = false := (show e.platform.stackTraces = l.stackTraces by rw [X.admits.platform]).trans hl
  have Y := vx_rebase X (R' := { frames := R.frames, locals := R.locals, cells := 1, slots := 6 }) (Nat.le_refl _) (Nat.le_refl _) hRcells hRslots
  obtain ⟨s', hA⟩ : ∃ z, z = (T.setVm s.vm).setFrames (.invoking m args :: below) := ⟨_, rfl⟩
  rw [← hA] at Y
  have hvm : s'.vm = s.vm := by rw [hA]; rfl
  have hhp : s'.heap = H := by rw [hA]; exact hT
  have hW0 : s.WarmedH s'.vm := by rw [hvm]; exact State.WarmedH.refl s
  have hat' : ∀ w ∈ vx_atS own ic cls names, w.before args s' = true := fun w hw => vx_ot_at hW0 hvm.symm (hgood w (List.mem_cons_of_mem _ (List.mem_cons_of_mem _ hw))) (hat w hw)
  have hk' : (Cond.classLink own ik cls).before args s' = true := vx_ot_at hW0 hvm.symm (hgood _ List.mem_cons_self) hk
  have hini' : (Cond.initialized cls).before args s' = true := vx_ot_at hW0 hvm.symm (hgood _ (List.mem_cons_of_mem _ List.mem_cons_self)) hini
  have hU' : vx_Zq Bundle.tN "UNASSIGNED_STACK" Bundle.steD A s' s'.heap := by rw [hhp]; exact vx_Zq.moved hW0.alike (hU.kept hS.2.1)
  have hN' : vx_Zq Bundle.tN "SUPPRESSED_SENTINEL" Bundle.listD A s' s'.heap := by rw [hhp]; exact vx_Zq.moved hW0.alike (hN.kept hS.2.1)
  have h : ∀ w ∈ Bundle.ownAtoms own ic cls names, w.before args s' = true := vx_own hat' (vx_isRefq hU'.1) (vx_isRefq hN'.1) hU'.2.word hN'.2.word
  have hown' : s'.vm.findClass own = some m.cls := by rw [hvm]; exact hown
  have hins : (Cond.instantiable cls 6).before args s' = true := h _ (by simp [Bundle.ownAtoms])
  obtain ⟨vm₁, cX, kX, hfX, hkX, -, -, X₁, st1⟩ := Y.newCold hexec (own := own) (C := cls) (index := ik) (n := 6) hown' hk' hins hini'
    (g := F0 m pc ls rest) rfl (by rw [hb]; exact d0) (Nat.le_refl _) (Nat.le_refl _)
  generalize hT1 : (T.setVm vm₁).pushCell { cls := cX, slots := kX.instanceTypes.map defaultValue, vm := .none } = T1 at X₁ st1
  have hcat : (Value.ref T.heap.size).category = 1 := rfl
  have hcellA : T1.heap[T.heap.size]? = some (freshCell cX kX) := by rw [← hT1]; exact State.heap_pushCell_size _ _
  have d3' : decode c.code (pc + 3) = .ok (.dup, 1) := by rw [hb]; exact d3
  have d4' : decode c.code (pc + 4) = .ok (.ldc_w is, 3) := by rw [hb]; exact d4
  have hstr' : vk_R own is text sa s' := vk_R.warm hW0 hstr
  obtain ⟨U, hsteps, hrun, hend, hW, hsame, ce, hce, hO⟩ := X₁.ctorThrowS hexec htr (own := own) (cls := cls) (names := names) (ic := ic) hown' hcls hnames h (fun x hx => nomatch hx) hfX hkX hcellA (by rw [hhp, hT]; exact Nat.le_refl _) (msg := .ref sa) rfl
    (g := { method := m, pc := pc + 7, locals := ls, stack := .ref sa :: .ref T.heap.size :: .ref T.heap.size :: rest, locked := none }) rfl hsize rfl rfl (rest := rest) rfl
    (by rw [hb]; exact d7) (by rw [hb]; exact d10) hout hRframes (by simp only [List.map_cons, List.sum_cons, hcat]; omega) hlocks
  obtain ⟨f1, f2⟩ := vx_frame hsame
  rw [hhp] at f1 f2
  have hWs : s.WarmedH U.vm := State.WarmedH.trans hW0 hW
  have hcl : s.vm.findClass cls = some ce.cls := by
    have h9 := hO.cls
    rw [hvm] at h9
    exact h9
  have hall : s.sameButNew ({ U with vm := s.vm } : State) locs mc ms := by
    subst hA
    obtain ⟨e1, e2⟩ := hsame
    rw [State.setFrames_setFrames] at e1
    have h2 : (T.setVm s.vm).sameButNew ({ U with vm := s.vm } : State) [] (0 + 1) (0 + 6) := ⟨e1, e2⟩
    have h3 := X.same.trans h2
    rw [List.append_nil] at h3
    exact h3.mono hc hs
  refine ⟨U, ?_, .threw T.heap.size, hrun, hend, Or.inr ⟨T.heap.size, rfl, cls, ce, locs, hx U hWs.alike f1 (fun q hq => f2 q hq (fun z hz => nomatch hz)), hce, hO.vm, hcl, hWs, hall, hf⟩⟩
  refine st1 _ ?_
  show Steps p.tables e below (T1.setTop { method := m, pc := pc + 3, locals := ls, stack := .ref T.heap.size :: rest, locked := none }) _
  jvm_step X₁.here [X₁.here.top, hexec, d3', Value.category]
  exact X₁.ldcStringW hexec (own := own) (text := text) (index := is) (a := sa) hown' hstr'.1 hstr'.2
    (g := { method := m, pc := pc + 4, locals := ls, stack := .ref T.heap.size :: .ref T.heap.size :: rest, locked := none }) rfl d4' _ hsteps
end Ends
section Bodies
variable {l : Launch}
theorem vx_ofW {y : MethodName} {ws ws' : List Cond} {rm : Room} {Pc : Array Value → State → Prop} {Qc : Array Value → State → Outcome → State → Prop} {XC : String → State → State → Prop} {mc ms : Nat} {free : Addr → Prop} {cc : ByteArray} {maxL : Nat} {ret : Option FieldType}
    (hy : plainName y.cls = true) (hw : ws = Cond.code y cc maxL ret :: ws')
    (body : ∀ p e s m args below meth c s₁, BodyLoose p l y (headSpec ws rm) cc maxL ret e s m args below meth c s₁ → c.maxLocals = maxL → (∀ x ∈ c.exceptionTable.toList, False) → Pc args s →
      W p l e (headSpec ws rm).room s m args below meth c s.heap [] 0 0 (vx_MQ below Qc XC args s mc ms free) (entryFrame m args maxL)) : vx_Met l y ws rm Pc Qc XC mc ms free := by
  refine MetFree.of_bodyS (code := cc) (maxLocals := maxL) (ret := ret) hy ?_ ?_
  · intro args s m h hn
    obtain ⟨meth, c, h1, h2, h3, h4, h5, h6, -, -⟩ := Cond.code_spec hn (atoms_spec (ws := ws) h _ (by rw [hw]; exact List.mem_cons_self))
    exact ⟨meth, c, h1, h2, h3, h4, h5, h6⟩
  · intro p e s m args below meth c s₁ B hml hP _
    have hh0 : s₁.heap = s.heap := by rw [B.state]; rfl
    have ht : ∀ x ∈ c.exceptionTable.toList, False := by
      obtain ⟨meth9, c9, h1, h2, -, -, -, -, h7, -⟩ := Cond.code_spec B.named (atoms_spec (ws := ws) B.pre _ (by rw [hw]; exact List.mem_cons_self))
      cases Option.some.inj (h1.symm.trans B.method)
      cases Option.some.inj (h2.symm.trans (Stand.of_body B).code)
      intro x hx
      rw [Array.isEmpty_iff.mp h7] at hx
      cases hx
    obtain ⟨t, a1, o, b1, b2, b3⟩ := body p e s m args below meth c s₁ B hml ht hP s₁ hh0 (Stand.of_body B)
    exact ⟨t, o, a1, b1, b2, b3⟩
/-- the table of a body with handlers -/
theorem vx_table {p : Program} {x y : MethodName} {S : Spec} {cc bytes : ByteArray} {maxL maxL' : Nat} {ret ret' : Option FieldType} {e : Env} {s s₁ : State} {m : MethodId} {args : Array Value} {below : List Frame} {meth : Method} {c : Code} {hh : List (Nat × Nat × Nat × Nat)}
    (B : BodyLoose p l y S cc maxL ret e s m args below meth c s₁) (h : (Cond.codeWith y bytes maxL' ret' hh).before args s = true) : c.exceptionTable.toList = tableOf hh := by
  obtain ⟨m9, meth9, c9, hn9, h1, h2, -, -, h6, -⟩ := Cond.codeWith_spec h
  cases Option.some.inj (hn9.symm.trans B.named)
  cases Option.some.inj (h1.symm.trans B.method)
  cases Option.some.inj (h2.symm.trans (Stand.of_body B).code)
  rw [← h6, table_eq]
end Bodies
end VXA
/-! ===== END ===== -/
/-! ===== BEGIN a static call of a method with an exception table ===== -/
section VXS
variable {p : Program} {l : Launch} {e : Env} {R : Room} {s : State} {m : MethodId} {args : Array Value} {below : List Frame} {meth : Method} {c : Code} {T : State} {H : Heap} {locs : List Loc} {cells slots : Nat}
abbrev vx_CSW (R : Room) (s : State) (args : Array Value) (own : String) (index : Nat) (y : MethodName) (bytes : ByteArray) (maxL : Nat) (ret : Option FieldType) (hh : List (Nat × Nat × Nat × Nat)) (ws : List Cond) (rm : Room) (mc ms n : Nat) : Prop :=
  (rm.cells = mc ∧ rm.slots = ms ∧ rm.frames + 1 ≤ R.frames ∧ 8 + (maxL + 11) + rm.locals ≤ R.locals ∧ (∀ w ∈ ws, ∀ (a' : Array Value) (U : State), s.WarmedH U.vm → w.before a' U = true) ∧ Cond.codeWith y bytes maxL ret hh ∈ ws) ∧
  (Cond.codeWith y bytes maxL ret hh).before args s = true ∧ (Cond.initialized y.cls).before args s = true ∧ (y.cls ≠ "java/lang/invoke/MethodHandle" ∧ y.cls ≠ "java/lang/invoke/VarHandle") ∧
  (∀ sig, parseMethodDescriptor y.desc = some sig → n = sig.parameters.length) ∧ (Cond.methodLink own index y).before args s = true ∧ (Cond.static y).before args s = true
theorem vx_cwSW {own : String} {index maxL mc ms : Nat} {y : MethodName} {bytes : ByteArray} {ret : Option FieldType} {hh : List (Nat × Nat × Nat × Nat)} {Ts ws ws' : List Cond} {rm : Room} (n : Nat) (ht : ∀ w ∈ Ts, w.before args s = true) (hT : GoodIn Ts (va_wsS own index y ws)) (hw : ws = Cond.codeWith y bytes maxL ret hh :: ws') (hrc : rm.cells = mc) (hrs : rm.slots = ms)
    (hd : y.cls ≠ "java/lang/invoke/MethodHandle" ∧ y.cls ≠ "java/lang/invoke/VarHandle" ∧ (parseMethodDescriptor y.desc).map (fun d => d.parameters.length) = some n) (hR : rm.frames + 1 ≤ R.frames ∧ 8 + (maxL + 11) + rm.locals ≤ R.locals) :
    vx_CSW R s args own index y bytes maxL ret hh ws rm mc ms n := by
  have ok : ∀ w ∈ va_wsS own index y ws, w.before args s = true := fun w h => ht w (hT w h).1
  have hG : GoodIn Ts ws := fun w h => hT w (by unfold va_wsS; exact List.mem_append_right _ h)
  have hc : Cond.codeWith y bytes maxL ret hh ∈ ws := by rw [hw]; exact List.mem_cons_self
  refine ⟨⟨hrc, hrs, hR.1, hR.2, pay_in ht hG, hc⟩, ht _ (hG _ hc).1, ok _ (by simp [va_wsS]), ⟨hd.1, hd.2.1⟩, fun sig h => ?_, ok _ (by simp [va_wsS]), ok _ (by simp [va_wsS])⟩
  have h2 := hd.2.2
  rw [h] at h2
  exact (Option.some.inj h2).symm
theorem vx_callSW (X : Stand p l e R s m args below meth c T locs cells slots) (hexec : p.tables.exec = Jvm.exec) {own : String} {index : Nat} {y : MethodName} {bytes : ByteArray} {maxL : Nat} {ret : Option FieldType} {hh : List (Nat × Nat × Nat × Nat)}
    (hown : s.vm.findClass own = some m.cls) (hlink : (Cond.methodLink own index y).before args s = true) (hstat : (Cond.static y).before args s = true) (hinit : (Cond.initialized y.cls).before args s = true)
    (hcode : (Cond.codeWith y bytes maxL ret hh).before args s = true) (hy : y.cls ≠ "java/lang/invoke/MethodHandle" ∧ y.cls ≠ "java/lang/invoke/VarHandle")
    {W9 : Nat} {Pre : Pt → Array Value → Prop} {Post : Pt → Array Value → Option Value → Pt → Prop} (hK : Back l R p e below s args y 3 W9 Pre Post)
    {g : JFrame} (hg : g.method = m) (hsize : g.locals.size = c.maxLocals) {argsL rest : List Value} (hlen : ∀ sig, parseMethodDescriptor y.desc = some sig → argsL.length = sig.parameters.length)
    (hstack : g.stack = argsL.reverse ++ rest) (hW : 2 * g.monitorRoom + (rest.map fun v => v.category).sum ≤ W9) (hdg : decode c.code g.pc = .ok (.invokestatic index, 3))
    (hpre : ∀ vm₁, s.WarmedH vm₁ → Pre ⟨T.setVm vm₁, locs, cells, slots⟩ argsL.toArray) :
    ∃ (v : Option Value) (vm₁ : Vm) (B : Pt), s.WarmedH vm₁ ∧ Stand p l e R s m args below meth c B.U B.locs B.cells B.slots ∧ Post ⟨T.setVm vm₁, locs, cells, slots⟩ argsL.toArray v B ∧
      ∀ target, Steps p.tables e below (B.U.setTop { g with pc := g.pc + 3, stack := v.toList ++ rest }) target → Steps p.tables e below (T.setTop g) target := by
  obtain ⟨mk, methM, cM, hnamed, hmethM, -, -, -, -, -, -, hsigM⟩ := Cond.codeWith_spec hcode
  have hstatic : methM.isStatic = true := Cond.static_spec hnamed hmethM hstat
  obtain ⟨kP, hkP, -⟩ := className_of_methodNamed hnamed
  have hinitP : kP.init = .initialized := Cond.initialized_spec (findClass_of_methodNamed hnamed) hkP hinit
  obtain ⟨vm₁, X₁, hstep₁⟩ := X.invokestatic hexec hown hlink hnamed hmethM hstatic hkP hinitP hy (g := g) hg (argsL := argsL) (rest := rest) (hlen _ hsigM) hstack hdg
  obtain ⟨v, B, X', hpost, hsteps⟩ := hK m meth c ⟨T.setVm vm₁, locs, cells, slots⟩ { g with stack := rest } (.invokestatic index) mk argsL.toArray X₁ hg hsize hdg hW (X₁.named hnamed) (hpre vm₁ X₁.warmed)
  exact ⟨v, vm₁, B, X₁.warmed, X', hpost, fun target h => hstep₁ _ fun acts => by rw [doInvoke_state]; exact hsteps.trans h⟩
theorem vx_runSW {y : MethodName} {bytes cc : ByteArray} {maxL nL mc ms n index : Nat} {ret : Option FieldType} {hh : List (Nat × Nat × Nat × Nat)} {ws : List Cond} {rm : Room} {Pc : Array Value → State → Prop} {Qc : Array Value → State → Outcome → State → Prop} {free : Addr → Prop} {Ts : List Cond} {own : String} {As rest : List Value} {g : JFrame}
    (S : CallFix p m c cc nL s args Ts own) (hM : Met l y ws rm Pc Qc mc ms free) (cw : vx_CSW R s args own index y bytes maxL ret hh ws rm mc ms n) (hp : PreS s H Pc As)
    (hg : g.method = m) (hn : As.length = n) (hsize : g.locals.size = nL) (hstack : g.stack = As.reverse ++ rest) (hW : 2 * g.monitorRoom + (rest.map fun v => v.category).sum ≤ 8) (hdg : decode cc g.pc = .ok (.invokestatic index, 3)) (hf : cells + mc ≤ R.cells ∧ slots + ms ≤ R.slots) :
    va_Run p l e R s m args below meth c H locs cells slots mc ms g rest (Qc As.toArray) (free) := by
  obtain ⟨⟨hrc, hrs, hfr, hlo, hws, hcw⟩, hcode, hini, hy, hlen, hl, hstt⟩ := cw
  have hK : Back l R p e below s args y 3 8 (PreOf R mc ms Pc) (PostOf Qc mc ms free) := va_backW (hh := hh) (bytes := bytes) (maxL := maxL) (ret := ret) hM hp.1 hrc hrs hfr hlo hws hcw (fun a' U hW => word_at hW (Or.inl (by first | rfl | simp [Cond.onTables, Cond.keeps, Cond.steady])) hini)
  obtain ⟨hx, hb, hml, ho, -⟩ := S
  intro T hT X
  obtain ⟨v, vm₁, ⟨U', l2, c2, s2⟩, hW₁, X', ⟨g', mk, t, L, e1, e2, hq, h1, hL, h2, h3⟩, st⟩ := vx_callSW X hx (hh := hh) (bytes := bytes) (maxL := maxL) (ret := ret) ho hl hstt hini hcode hy hK hg (hsize.trans hml.symm) (argsL := As) (rest := rest) (fun sig h => hn.trans (hlen sig h)) hstack hW (by rw [hb]; exact hdg)
    (fun vm₁ hW₁ => ⟨hf.1, hf.2, hp.2 (T.setVm vm₁) hT hW₁⟩)
  dsimp only [Pt.U, Pt.locs, Pt.cells, Pt.slots] at X' e1 e2 h1 h2 h3 st
  subst h1; subst h2; subst h3
  exact ⟨v, (T.setVm vm₁).calling g' mk As.toArray, t, U', L, hT, X', hL, e1, e2, hq, st⟩
/-- not caught here, past rows that name other classes: it goes on to the caller -/
theorem vx_outP {p : Program} {l : Launch} {e : Env} {R : Room} {s : State} {m : MethodId} {args : Array Value} {below : List Frame} {meth : Method} {c : Code} {H : Heap} {locs : List Loc} {cells slots : Nat} {free : Addr → Prop} {ls : Array Slot} {rest : List Value} {Qc : Array Value → State → Outcome → State → Prop} {XC : String → State → State → Prop}
    {pc : Nat} {own E : String} {ce : Cell} {q : Addr} {mc ms : Nat} (hown : s.vm.findClass own = some m.cls) (hlocks : meth.locks = false)
    (hpass : ∀ z ∈ c.exceptionTable.toList, covers z pc = false ∨ (z.catchType ≠ 0 ∧ ∃ nm : String, (Cond.classLink own z.catchType nm).before args s = true ∧ va_Nc E nm s)) (hcell : H[q]? = some ce) (hv : ce.vm = .none) (hcl : s.vm.findClass E = some ce.cls)
    (hx : ∀ t : State, t.heap = H → s.vm.Alike t.vm → XC E s t) (hf : ∀ z ∈ locs, free z.base) (hc : cells ≤ mc) (hs : slots ≤ ms) :
    vx_W p l e R s m args below meth c H locs cells slots (vx_MQ below Qc XC args s mc ms free) (F0 m pc ls rest) q := by
  intro T hT X
  have hpl : e.platform.magicAccessors = ({} : Platform).magicAccessors := by rw [X.admits.platform]
  obtain ⟨vm', hW', X', st⟩ := X.outThrough hlocks q (g := F0 m pc ls rest) rfl rfl rfl (cell := ce) (by rw [hT]; exact hcell) (by rw [hv]; rfl)
    (by obtain ⟨k9, h9, -⟩ := Vm.findClass_spec hcl; exact ⟨k9, h9⟩) (fun z hz => by
      rcases hpass z hz with h | ⟨hz0, nm, hl1, hn1⟩
      · exact Or.inl h
      · obtain ⟨c6, hc6, hcl6⟩ := Cond.classLink_spec hown hl1 e.platform hpl
        obtain ⟨a8, b8, h1, h2, h3⟩ := hn1
        cases Option.some.inj (h1.symm.trans hcl)
        cases Option.some.inj (h2.symm.trans hc6)
        exact Or.inr ⟨hz0, _, hcl6, h3⟩)
  obtain ⟨g₀, hfr⟩ := X'.frames_eq
  have hcell9 : ((T.setVm vm').setFrames (.throwing q :: below)).heap[q]? = some ce := by
    show T.heap[q]? = some ce
    rw [hT]; exact hcell
  have hend : Ended ((T.setVm vm').setFrames (.throwing q :: below)) below (.threw q) := State.frames_setFrames _ (State.cur_lt_of_frames hfr)
  refine ⟨(T.setVm vm').setFrames (.throwing q :: below), ?_, .threw q, X'.here.running, hend, Or.inr ⟨q, rfl, E, ce, locs, hx _ hT (X'.ends _).1.alike, hcell9, hv, hcl, (X'.ends _).1, (X'.ends _).2.mono hc hs, hf⟩⟩
  rw [X.pushThrowing_eq]
  exact st
/-- a thing of a world lies in the heap -/
theorem vx_lt {D : va_G} {cl : List vw_C} {ws : va_W} {H1 : Heap} (h : va_P D cl ws H1) {k : Nat} {q : Nat × va_E} (hk : ws[k]? = some q) : q.1 < H1.size := (h k q hk).lt
end VXS
/-! ===== END ===== -/
/-! ===== BEGIN methods with a table of their own: called by a name, returning or throwing ===== -/
section VXH
/-! vx_backW, vx_callVX, vx_callSX, vx_callVW, vx_runVW, vx_runVX, vx_runSX, vx_ofWH follow the same proofs as their sisters above (Free/Laws.lean, Shelf42/LK1.lean); vx_outP calls Shelf42/NT130.lean (outThrough). -/
section
variable {l : Launch} {R : Room} {p : Program} {e : Env} {below : List Frame} {s : State} {sargs : Array Value} {y : MethodName} {len W9 : Nat}
theorem vx_backW {ws : List Cond} {rm : Room} {Pc : Array Value → State → Prop} {Qc : Array Value → State → Outcome → State → Prop} {XC : String → State → State → Prop} {mc ms : Nat} {free : Addr → Prop} {bytes : ByteArray} {maxL : Nat} {ret : Option FieldType} {hh : List (Nat × Nat × Nat × Nat)}
    (hM : vx_Met l y ws rm Pc Qc XC mc ms free) (hblind : FrameBlind Pc) (hrc : rm.cells = mc) (hrs : rm.slots = ms)
    (hframes : rm.frames + 1 ≤ R.frames) (hlocals : W9 + (maxL + 11) + rm.locals ≤ R.locals)
    (hws : ∀ w ∈ ws, ∀ a' U, s.WarmedH U.vm → w.before a' U = true) (hcode : Cond.codeWith y bytes maxL ret hh ∈ ws) (hinit : ∀ a' U, s.WarmedH U.vm → (Cond.initialized y.cls).before a' U = true) :
    vx_Back l R p e below s sargs y len W9 (PreOf R mc ms Pc) (PostOf Qc mc ms free) (vx_Post XC mc ms free) := by
  intro m meth c A g ig mk a X hg hsize hdg hW hn hp
  have h1 : (headSpec ws rm).pre.before a A.U = true := atoms_intro fun w hw => hws w hw _ _ X.warmed
  have h2 : (Cond.codeWith y bytes maxL ret hh).before a A.U = true := hws _ hcode _ _ X.warmed
  have h3 : (Cond.initialized y.cls).before a A.U = true := hinit _ _ X.warmed
  have h4 : A.cells + (headSpec ws rm).room.cells ≤ R.cells := by rw [show (headSpec ws rm).room.cells = mc from hrc]; exact hp.1
  have h5 : A.slots + (headSpec ws rm).room.slots ≤ R.slots := by rw [show (headSpec ws rm).room.slots = ms from hrs]; exact hp.2.1
  have hPc : Pc a (A.U.calling g mk a) := hblind _ _ _ _ hp.2.2
  obtain ⟨U, Ls, c0, s0⟩ := A
  dsimp only [Pt.U, Pt.locs, Pt.cells, Pt.slots] at h1 h2 h3 h4 h5 X hn hPc ⊢
  obtain ⟨m9, methY, cY, hn9, hmY, hcY, -, hlY, -⟩ := Cond.codeWith_spec h2
  cases Option.some.inj (hn9.symm.trans hn)
  obtain ⟨kY, hkY, -⟩ := className_of_methodNamed hn
  have hinitY : kY.init = .initialized := Cond.initialized_spec (findClass_of_methodNamed hn) hkY h3
  have h : At U g.method c below := by rw [hg]; exact X.here
  have hlocals9 : W9 + (maxL + 11) + (headSpec ws rm).room.locals ≤ R.locals := hlocals
  have happ : (headSpec ws rm).appliesLoose y e.platform (U.calling g mk a) = true :=
    Spec.appliesLoose_calling (g := g) h hdg hn hkY hinitY
      (X.room_calling (g := g) (R' := (headSpec ws rm).room) hsize hmY hcY hframes (by rw [hlY]; omega) h4 h5) h1
  obtain ⟨mid, hmid⟩ := h.above
  have hfr : (U.setTop g).frames = (.java g :: mid) ++ below := by rw [State.frames_setTop' g h.top, hmid]; rfl
  obtain ⟨o, s₂, hsteps, -, hend, hq⟩ := Steps.callFree hM p X.admits X.cas X.clock (acts := []) hfr happ hPc trivial
  have hq' : vx_Q Qc XC mc ms free a (U.calling g mk a) o s₂ := hq
  rw [State.frames_setTop' g h.top] at hend
  obtain ⟨g₀, hg0⟩ := Option.isSome_iff_exists.mp h.top
  obtain ⟨r, hr⟩ := State.topJava?_eq_some.mp hg0
  have hr' : (({ U with heap := s₂.heap, slotsUsed := s₂.slotsUsed } : State).setVm s₂.vm).frames = .java g₀ :: r := hr
  rcases hq' with ⟨hqc, L, hfe, hL⟩ | ⟨q, rfl, E, ce, L, hx, hce, hcv, hcl, hW₂, hsm, hL⟩
  · obtain ⟨⟨v, rfl⟩, hW₂, e2, q2, q3, q4, q5, q6⟩ := id hfe
    have e3 : s₂ = ({ (U.calling g mk a).setFrames s₂.frames with heap := s₂.heap, slotsUsed := s₂.slotsUsed } : State).setVm s₂.vm := by
      have : s₂ = ({ s₂ with vm := (U.calling g mk a).vm } : State).setVm s₂.vm := rfl
      rw [e2] at this
      exact this
    obtain ⟨c₂, i₂, len₂, hc₂, hd₂, hf₂⟩ := hend
    have hW' : U.WarmedH s₂.vm := hW₂
    have hcc : c₂ = c := by
      have h1 : s₂.code? g.method = U.code? g.method := by
        rw [State.code?_eq, State.code?_eq, hW'.alike.method?]
      exact Option.some.inj (hc₂.symm.trans (h1.trans h.code))
    subst hcc
    have hlen : len₂ = len := by rw [hdg] at hd₂; cases hd₂; rfl
    subst hlen
    have hs₂ : s₂ = (({ U with heap := s₂.heap, slotsUsed := s₂.slotsUsed } : State).setVm s₂.vm).setTop { g with pc := g.pc + len₂, stack := v.toList ++ g.stack } := by
      refine e3.trans ?_
      rw [hf₂, State.calling_eq h.top, State.setFrames_setFrames, State.setTop_of_frames _ hr', hr]
      rfl
    have hsame : U.sameButNew ({ U with heap := s₂.heap, slotsUsed := s₂.slotsUsed } : State) L mc ms := by
      refine ⟨?_, q2, q3, q4, q5, q6⟩
      obtain ⟨t, ht, -⟩ := State.frames_cons hr
      show ({ U with heap := s₂.heap, slotsUsed := s₂.slotsUsed } : State) = { U.setFrames U.frames with heap := s₂.heap, slotsUsed := s₂.slotsUsed }
      rw [State.setFrames_self ht]
    subst hg
    refine Or.inl ⟨v, ⟨(({ U with heap := s₂.heap, slotsUsed := s₂.slotsUsed } : State).setVm s₂.vm), Ls ++ L, c0 + mc, s0 + ms⟩,
      ⟨X.admits, X.cas, X.clock, X.frames, X.room, X.hears, X.method, X.code, (X.here.setHeapUsed s₂.heap s₂.slotsUsed).setVm hW'.alike, X.tail, State.WarmedH.trans X.warmed hW', X.limits, X.bytes, X.same.trans (hsame.setVm s.vm)⟩,
      ⟨g, mk, s₂, L, rfl, rfl, hqc, rfl, hL, rfl, rfl⟩, ?_⟩
    show Steps p.tables e below _ ((({ U with heap := s₂.heap, slotsUsed := s₂.slotsUsed } : State).setVm s₂.vm).setTop { g with pc := g.pc + len₂, stack := v.toList ++ g.stack })
    rw [← hs₂]
    exact hsteps
  · obtain ⟨e2, q2, q3, q4, q5, q6⟩ := id hsm
    have e3 : s₂ = ({ (U.calling g mk a).setFrames s₂.frames with heap := s₂.heap, slotsUsed := s₂.slotsUsed } : State).setVm s₂.vm := by
      have : s₂ = ({ s₂ with vm := (U.calling g mk a).vm } : State).setVm s₂.vm := rfl
      rw [e2] at this
      exact this
    have hf₂ : s₂.frames = .throwing q :: .java g :: U.frames.tail := hend
    have hW' : U.WarmedH s₂.vm := hW₂
    have hs₂ : s₂ = ((({ U with heap := s₂.heap, slotsUsed := s₂.slotsUsed } : State).setVm s₂.vm).setTop g).pushFrame (.throwing q) := by
      refine e3.trans ?_
      rw [hf₂, State.calling_eq h.top, State.setFrames_setFrames, State.pushFrame, State.frames_setTop _ hr', State.setTop_of_frames _ hr', State.setFrames_setFrames, hr]
      rfl
    have hsame : U.sameButNew ({ U with heap := s₂.heap, slotsUsed := s₂.slotsUsed } : State) L mc ms := by
      refine ⟨?_, q2, q3, q4, q5, q6⟩
      obtain ⟨t, ht, -⟩ := State.frames_cons hr
      show ({ U with heap := s₂.heap, slotsUsed := s₂.slotsUsed } : State) = { U.setFrames U.frames with heap := s₂.heap, slotsUsed := s₂.slotsUsed }
      rw [State.setFrames_self ht]
    subst hg
    refine Or.inr ⟨q, ⟨(({ U with heap := s₂.heap, slotsUsed := s₂.slotsUsed } : State).setVm s₂.vm), Ls ++ L, c0 + mc, s0 + ms⟩,
      ⟨X.admits, X.cas, X.clock, X.frames, X.room, X.hears, X.method, X.code, (X.here.setHeapUsed s₂.heap s₂.slotsUsed).setVm hW'.alike, X.tail, State.WarmedH.trans X.warmed hW', X.limits, X.bytes, X.same.trans (hsame.setVm s.vm)⟩,
      ⟨g, mk, s₂, L, E, ce, rfl, rfl, hx, hce, hcv, hcl, rfl, hL, rfl, rfl⟩, ?_⟩
    show Steps p.tables e below _ (((({ U with heap := s₂.heap, slotsUsed := s₂.slotsUsed } : State).setVm s₂.vm).setTop g).pushFrame (.throwing q))
    rw [← hs₂]
    exact hsteps
end
variable {p : Program} {l : Launch} {e : Env} {R : Room} {s : State} {m : MethodId} {args : Array Value} {below : List Frame} {meth : Method} {c : Code} {T : State} {H : Heap} {locs : List Loc} {cells slots : Nat}
theorem vx_callVX (X : Stand p l e R s m args below meth c T locs cells slots) (hexec : p.tables.exec = Jvm.exec) {own C : String} {index : Nat} {y : MethodName} {bytes : ByteArray} {maxL : Nat} {ret : Option FieldType} {hh : List (Nat × Nat × Nat × Nat)}
    (hown : s.vm.findClass own = some m.cls) (hlink : (Cond.methodLink own index y).before args s = true) (hinst : (Cond.instanceMethod y).before args s = true) (hsel : (Cond.selects C y y).before args s = true)
    (hcode : (Cond.codeWith y bytes maxL ret hh).before args s = true) (hy : y.cls ≠ "java/lang/invoke/MethodHandle" ∧ y.cls ≠ "java/lang/invoke/VarHandle")
    {W9 : Nat} {Pre : Pt → Array Value → Prop} {Post : Pt → Array Value → Option Value → Pt → Prop} {PostX : Pt → Array Value → Addr → Pt → Prop} (hK : vx_Back l R p e below s args y 3 W9 Pre Post PostX)
    {b : Addr} {cellB : Cell} (hcell : T.heap[b]? = some cellB) (hobj : cellB.vm.isStatics = false) (hcls : s.vm.findClass C = some cellB.cls)
    {g : JFrame} (hg : g.method = m) (hsize : g.locals.size = c.maxLocals) {argsL rest : List Value} (hlen : ∀ sig, parseMethodDescriptor y.desc = some sig → argsL.length = sig.parameters.length)
    (hstack : g.stack = argsL.reverse ++ .ref b :: rest) (hW : 2 * g.monitorRoom + (rest.map fun v => v.category).sum ≤ W9) (hdg : decode c.code g.pc = .ok (.invokevirtual index, 3))
    (hpre : ∀ vm₁, s.WarmedH vm₁ → Pre ⟨T.setVm vm₁, locs, cells, slots⟩ (Value.ref b :: argsL).toArray) :
    (∃ (v : Option Value) (vm₁ : Vm) (B : Pt), s.WarmedH vm₁ ∧ Stand p l e R s m args below meth c B.U B.locs B.cells B.slots ∧ Post ⟨T.setVm vm₁, locs, cells, slots⟩ (Value.ref b :: argsL).toArray v B ∧
      ∀ target, Steps p.tables e below (B.U.setTop { g with pc := g.pc + 3, stack := v.toList ++ rest }) target → Steps p.tables e below (T.setTop g) target) ∨
    (∃ (q : Addr) (vm₁ : Vm) (B : Pt), s.WarmedH vm₁ ∧ Stand p l e R s m args below meth c B.U B.locs B.cells B.slots ∧ PostX ⟨T.setVm vm₁, locs, cells, slots⟩ (Value.ref b :: argsL).toArray q B ∧
      Steps p.tables e below (T.setTop g) ((B.U.setTop { g with stack := rest }).pushFrame (.throwing q))) := by
  obtain ⟨mk, methM, hnamed, hmethM, hstM, habM⟩ := Cond.instanceMethod_spec hinst
  obtain ⟨m8, methM', cM, hn8, hmethM', -, -, -, -, -, -, hsigM⟩ := Cond.codeWith_spec hcode
  cases Option.some.inj (hn8.symm.trans hnamed)
  cases hmethM.symm.trans hmethM'
  obtain ⟨c2, r2, m2, q1, q2, q3, q4, kP, hkP, hkPi⟩ := Cond.selects_spec hsel
  cases hcls.symm.trans q1
  cases (State.methodFound?_of_named hnamed hy).symm.trans q2
  cases hnamed.symm.trans q3
  have hselP : selectMethod e.platform s.vm cellB.cls mk = .method mk := by rw [Launch.admits_selectMethod X.admits]; exact q4
  obtain ⟨vm₁, X₁, hstep₁⟩ := X.invokevirtual hexec hown hlink hnamed hmethM hstM hkP hkPi hy (a := b) (cell := cellB) hcell
    (fun z h => by rw [h] at hobj; cases hobj) hselP hmethM habM hkP hkPi (g := g) hg (argsL := argsL) (rest := rest) (hlen _ hsigM) hstack hdg
  rcases hK m meth c ⟨T.setVm vm₁, locs, cells, slots⟩ { g with stack := rest } (.invokevirtual index) mk (Value.ref b :: argsL).toArray X₁ hg hsize hdg hW (X₁.named hnamed) (hpre vm₁ X₁.warmed) with ⟨v, B, X', hpost, hsteps⟩ | ⟨q, B, X', hpost, hsteps⟩
  · exact Or.inl ⟨v, vm₁, B, X₁.warmed, X', hpost, fun target h => hstep₁ _ fun acts => by rw [doInvoke_state]; exact hsteps.trans h⟩
  · exact Or.inr ⟨q, vm₁, B, X₁.warmed, X', hpost, hstep₁ _ fun acts => by rw [doInvoke_state]; exact hsteps⟩
theorem vx_callSX (X : Stand p l e R s m args below meth c T locs cells slots) (hexec : p.tables.exec = Jvm.exec) {own : String} {index : Nat} {y : MethodName} {bytes : ByteArray} {maxL : Nat} {ret : Option FieldType} {hh : List (Nat × Nat × Nat × Nat)}
    (hown : s.vm.findClass own = some m.cls) (hlink : (Cond.methodLink own index y).before args s = true) (hstat : (Cond.static y).before args s = true) (hinit : (Cond.initialized y.cls).before args s = true)
    (hcode : (Cond.codeWith y bytes maxL ret hh).before args s = true) (hy : y.cls ≠ "java/lang/invoke/MethodHandle" ∧ y.cls ≠ "java/lang/invoke/VarHandle")
    {W9 : Nat} {Pre : Pt → Array Value → Prop} {Post : Pt → Array Value → Option Value → Pt → Prop} {PostX : Pt → Array Value → Addr → Pt → Prop} (hK : vx_Back l R p e below s args y 3 W9 Pre Post PostX)
    {g : JFrame} (hg : g.method = m) (hsize : g.locals.size = c.maxLocals) {argsL rest : List Value} (hlen : ∀ sig, parseMethodDescriptor y.desc = some sig → argsL.length = sig.parameters.length)
    (hstack : g.stack = argsL.reverse ++ rest) (hW : 2 * g.monitorRoom + (rest.map fun v => v.category).sum ≤ W9) (hdg : decode c.code g.pc = .ok (.invokestatic index, 3))
    (hpre : ∀ vm₁, s.WarmedH vm₁ → Pre ⟨T.setVm vm₁, locs, cells, slots⟩ argsL.toArray) :
    (∃ (v : Option Value) (vm₁ : Vm) (B : Pt), s.WarmedH vm₁ ∧ Stand p l e R s m args below meth c B.U B.locs B.cells B.slots ∧ Post ⟨T.setVm vm₁, locs, cells, slots⟩ argsL.toArray v B ∧
      ∀ target, Steps p.tables e below (B.U.setTop { g with pc := g.pc + 3, stack := v.toList ++ rest }) target → Steps p.tables e below (T.setTop g) target) ∨
    (∃ (q : Addr) (vm₁ : Vm) (B : Pt), s.WarmedH vm₁ ∧ Stand p l e R s m args below meth c B.U B.locs B.cells B.slots ∧ PostX ⟨T.setVm vm₁, locs, cells, slots⟩ argsL.toArray q B ∧
      Steps p.tables e below (T.setTop g) ((B.U.setTop { g with stack := rest }).pushFrame (.throwing q))) := by
  obtain ⟨mk, methM, cM, hnamed, hmethM, -, -, -, -, -, -, hsigM⟩ := Cond.codeWith_spec hcode
  have hstatic : methM.isStatic = true := Cond.static_spec hnamed hmethM hstat
  obtain ⟨kP, hkP, -⟩ := className_of_methodNamed hnamed
  have hinitP : kP.init = .initialized := Cond.initialized_spec (findClass_of_methodNamed hnamed) hkP hinit
  obtain ⟨vm₁, X₁, hstep₁⟩ := X.invokestatic hexec hown hlink hnamed hmethM hstatic hkP hinitP hy (g := g) hg (argsL := argsL) (rest := rest) (hlen _ hsigM) hstack hdg
  rcases hK m meth c ⟨T.setVm vm₁, locs, cells, slots⟩ { g with stack := rest } (.invokestatic index) mk argsL.toArray X₁ hg hsize hdg hW (X₁.named hnamed) (hpre vm₁ X₁.warmed) with ⟨v, B, X', hpost, hsteps⟩ | ⟨q, B, X', hpost, hsteps⟩
  · exact Or.inl ⟨v, vm₁, B, X₁.warmed, X', hpost, fun target h => hstep₁ _ fun acts => by rw [doInvoke_state]; exact hsteps.trans h⟩
  · exact Or.inr ⟨q, vm₁, B, X₁.warmed, X', hpost, hstep₁ _ fun acts => by rw [doInvoke_state]; exact hsteps⟩
theorem vx_callVW (X : Stand p l e R s m args below meth c T locs cells slots) (hexec : p.tables.exec = Jvm.exec) {own C : String} {index : Nat} {y : MethodName} {bytes : ByteArray} {maxL : Nat} {ret : Option FieldType} {hh : List (Nat × Nat × Nat × Nat)}
    (hown : s.vm.findClass own = some m.cls) (hlink : (Cond.methodLink own index y).before args s = true) (hinst : (Cond.instanceMethod y).before args s = true) (hsel : (Cond.selects C y y).before args s = true)
    (hcode : (Cond.codeWith y bytes maxL ret hh).before args s = true) (hy : y.cls ≠ "java/lang/invoke/MethodHandle" ∧ y.cls ≠ "java/lang/invoke/VarHandle")
    {W9 : Nat} {Pre : Pt → Array Value → Prop} {Post : Pt → Array Value → Option Value → Pt → Prop} (hK : Back l R p e below s args y 3 W9 Pre Post)
    {b : Addr} {cellB : Cell} (hcell : T.heap[b]? = some cellB) (hobj : cellB.vm.isStatics = false) (hcls : s.vm.findClass C = some cellB.cls)
    {g : JFrame} (hg : g.method = m) (hsize : g.locals.size = c.maxLocals) {argsL rest : List Value} (hlen : ∀ sig, parseMethodDescriptor y.desc = some sig → argsL.length = sig.parameters.length)
    (hstack : g.stack = argsL.reverse ++ .ref b :: rest) (hW : 2 * g.monitorRoom + (rest.map fun v => v.category).sum ≤ W9) (hdg : decode c.code g.pc = .ok (.invokevirtual index, 3))
    (hpre : ∀ vm₁, s.WarmedH vm₁ → Pre ⟨T.setVm vm₁, locs, cells, slots⟩ (Value.ref b :: argsL).toArray) :
    ∃ (v : Option Value) (vm₁ : Vm) (B : Pt), s.WarmedH vm₁ ∧ Stand p l e R s m args below meth c B.U B.locs B.cells B.slots ∧ Post ⟨T.setVm vm₁, locs, cells, slots⟩ (Value.ref b :: argsL).toArray v B ∧
      ∀ target, Steps p.tables e below (B.U.setTop { g with pc := g.pc + 3, stack := v.toList ++ rest }) target → Steps p.tables e below (T.setTop g) target := by
  obtain ⟨mk, methM, hnamed, hmethM, hstM, habM⟩ := Cond.instanceMethod_spec hinst
  obtain ⟨m8, methM', cM, hn8, hmethM', -, -, -, -, -, -, hsigM⟩ := Cond.codeWith_spec hcode
  cases Option.some.inj (hn8.symm.trans hnamed)
  cases hmethM.symm.trans hmethM'
  obtain ⟨c2, r2, m2, q1, q2, q3, q4, kP, hkP, hkPi⟩ := Cond.selects_spec hsel
  cases hcls.symm.trans q1
  cases (State.methodFound?_of_named hnamed hy).symm.trans q2
  cases hnamed.symm.trans q3
  have hselP : selectMethod e.platform s.vm cellB.cls mk = .method mk := by rw [Launch.admits_selectMethod X.admits]; exact q4
  obtain ⟨vm₁, X₁, hstep₁⟩ := X.invokevirtual hexec hown hlink hnamed hmethM hstM hkP hkPi hy (a := b) (cell := cellB) hcell
    (fun z h => by rw [h] at hobj; cases hobj) hselP hmethM habM hkP hkPi (g := g) hg (argsL := argsL) (rest := rest) (hlen _ hsigM) hstack hdg
  obtain ⟨v, B, X', hpost, hsteps⟩ := hK m meth c ⟨T.setVm vm₁, locs, cells, slots⟩ { g with stack := rest } (.invokevirtual index) mk (Value.ref b :: argsL).toArray X₁ hg hsize hdg hW (X₁.named hnamed) (hpre vm₁ X₁.warmed)
  exact ⟨v, vm₁, B, X₁.warmed, X', hpost, fun target h => hstep₁ _ fun acts => by rw [doInvoke_state]; exact hsteps.trans h⟩
abbrev vx_CVW (R : Room) (s : State) (args : Array Value) (own C : String) (index : Nat) (y : MethodName) (bytes : ByteArray) (maxL : Nat) (ret : Option FieldType) (hh : List (Nat × Nat × Nat × Nat)) (ws : List Cond) (rm : Room) (mc ms n : Nat) : Prop :=
  (rm.cells = mc ∧ rm.slots = ms ∧ rm.frames + 1 ≤ R.frames ∧ 8 + (maxL + 11) + rm.locals ≤ R.locals ∧ (∀ w ∈ ws, ∀ (a' : Array Value) (U : State), s.WarmedH U.vm → w.before a' U = true) ∧ Cond.codeWith y bytes maxL ret hh ∈ ws) ∧
  (Cond.codeWith y bytes maxL ret hh).before args s = true ∧ (Cond.initialized y.cls).before args s = true ∧ (y.cls ≠ "java/lang/invoke/MethodHandle" ∧ y.cls ≠ "java/lang/invoke/VarHandle") ∧
  (∀ sig, parseMethodDescriptor y.desc = some sig → n = sig.parameters.length) ∧ (Cond.methodLink own index y).before args s = true ∧ (Cond.instanceMethod y).before args s = true ∧ (Cond.selects C y y).before args s = true
theorem vx_cwVW {own C : String} {index maxL mc ms : Nat} {y : MethodName} {bytes : ByteArray} {ret : Option FieldType} {hh : List (Nat × Nat × Nat × Nat)} {Ts ws ws' : List Cond} {rm : Room} (n : Nat) (ht : ∀ w ∈ Ts, w.before args s = true) (hT : GoodIn Ts (wsV own index C y ws)) (hw : ws = Cond.codeWith y bytes maxL ret hh :: ws') (hrc : rm.cells = mc) (hrs : rm.slots = ms)
    (hd : y.cls = C ∧ y.cls ≠ "java/lang/invoke/MethodHandle" ∧ y.cls ≠ "java/lang/invoke/VarHandle" ∧ (parseMethodDescriptor y.desc).map (fun d => d.parameters.length) = some n) (hR : rm.frames + 1 ≤ R.frames ∧ 8 + (maxL + 11) + rm.locals ≤ R.locals) :
    vx_CVW R s args own C index y bytes maxL ret hh ws rm mc ms n := by
  obtain ⟨hC, hd⟩ := hd
  subst hC
  have ok : ∀ w ∈ wsV own index y.cls y ws, w.before args s = true := fun w h => ht w (hT w h).1
  have hG : GoodIn Ts ws := fun w h => hT w (by unfold wsV; exact List.mem_append_right _ h)
  have hc : Cond.codeWith y bytes maxL ret hh ∈ ws := by rw [hw]; exact List.mem_cons_self
  refine ⟨⟨hrc, hrs, hR.1, hR.2, pay_in ht hG, hc⟩, ht _ (hG _ hc).1, ok _ (by simp [wsV]), ⟨hd.1, hd.2.1⟩, fun sig h => ?_, ok _ (by simp [wsV]), ok _ (by simp [wsV]), ok _ (by simp [wsV])⟩
  have h2 := hd.2.2
  rw [h] at h2
  exact (Option.some.inj h2).symm
theorem vx_runVW {y : MethodName} {bytes cc : ByteArray} {maxL nL mc ms n index : Nat} {ret : Option FieldType} {hh : List (Nat × Nat × Nat × Nat)} {ws : List Cond} {rm : Room} {Pc : Array Value → State → Prop} {Qc : Array Value → State → Outcome → State → Prop} {free : Addr → Prop} {Ts : List Cond} {own C : String} {b : Addr} {As rest : List Value} {g : JFrame}
    (S : CallFix p m c cc nL s args Ts own) (hM : Met l y ws rm Pc Qc mc ms free) (cw : vx_CVW R s args own C index y bytes maxL ret hh ws rm mc ms n) (hp : PreV s H C b Pc As)
    (hg : g.method = m) (hn : As.length = n) (hsize : g.locals.size = nL) (hstack : g.stack = As.reverse ++ .ref b :: rest) (hW : 2 * g.monitorRoom + (rest.map fun v => v.category).sum ≤ 8) (hdg : decode cc g.pc = .ok (.invokevirtual index, 3)) (hf : cells + mc ≤ R.cells ∧ slots + ms ≤ R.slots) :
    va_Run p l e R s m args below meth c H locs cells slots mc ms g rest (Qc (Value.ref b :: As).toArray) free := by
  obtain ⟨⟨hrc, hrs, hfr, hlo, hws, hcw⟩, hcode, hini, hy, hlen, hl, hin, hse⟩ := cw
  have hK : Back l R p e below s args y 3 8 (PreOf R mc ms Pc) (PostOf Qc mc ms free) := va_backW (hh := hh) (bytes := bytes) (maxL := maxL) (ret := ret) hM hp.1 hrc hrs hfr hlo hws hcw (fun a' U hW => word_at hW (Or.inl (by first | rfl | simp [Cond.onTables, Cond.keeps, Cond.steady])) hini)
  obtain ⟨hx, hb, hml, ho, -⟩ := S
  obtain ⟨-, ⟨cellB, hcB, hoB, hclB⟩, hPc⟩ := hp
  intro T hT X
  obtain ⟨v, vm₁, ⟨U', l2, c2, s2⟩, hW₁, X', ⟨g', mk, t, L, e1, e2, hq, h1, hL, h2, h3⟩, st⟩ := vx_callVW X hx (C := C) (hh := hh) (bytes := bytes) (maxL := maxL) (ret := ret) ho hl hin hse hcode hy hK (by rw [hT]; exact hcB) hoB hclB hg (hsize.trans hml.symm) (argsL := As) (rest := rest) (fun sig h => hn.trans (hlen sig h)) hstack hW (by rw [hb]; exact hdg)
    (fun vm₁ hW₁ => ⟨hf.1, hf.2, hPc (T.setVm vm₁) hT hW₁⟩)
  dsimp only [Pt.U, Pt.locs, Pt.cells, Pt.slots] at X' e1 e2 h1 h2 h3 st
  subst h1; subst h2; subst h3
  exact ⟨v, (T.setVm vm₁).calling g' mk (Value.ref b :: As).toArray, t, U', L, hT, X', hL, e1, e2, hq, st⟩
section
variable {y : MethodName} {bytes cc : ByteArray} {maxL nL mc ms n index : Nat} {ret : Option FieldType} {ws : List Cond} {rm : Room} {Pc : Array Value → State → Prop} {Qc : Array Value → State → Outcome → State → Prop} {XC : String → State → State → Prop} {free : Addr → Prop} {Ts : List Cond} {own C : String} {b : Addr} {As rest : List Value} {g : JFrame}
theorem vx_runVX {hh : List (Nat × Nat × Nat × Nat)} (S : CallFix p m c cc nL s args Ts own) (hM : vx_Met l y ws rm Pc Qc XC mc ms free) (cw : vx_CVW R s args own C index y bytes maxL ret hh ws rm mc ms n) (hp : PreV s H C b Pc As)
    (hg : g.method = m) (hn : As.length = n) (hsize : g.locals.size = nL) (hstack : g.stack = As.reverse ++ .ref b :: rest) (hW : 2 * g.monitorRoom + (rest.map fun v => v.category).sum ≤ 8) (hdg : decode cc g.pc = .ok (.invokevirtual index, 3)) (hf : cells + mc ≤ R.cells ∧ slots + ms ≤ R.slots) :
    vx_Run p l e R s m args below meth c H locs cells slots mc ms g rest (Qc (Value.ref b :: As).toArray) XC free := by
  obtain ⟨⟨hrc, hrs, hfr, hlo, hws, hcw⟩, hcode, hini, hy, hlen, hl, hin, hse⟩ := cw
  have hK : vx_Back l R p e below s args y 3 8 (PreOf R mc ms Pc) (PostOf Qc mc ms free) (vx_Post XC mc ms free) := vx_backW (hh := hh) (bytes := bytes) (maxL := maxL) (ret := ret) hM hp.1 hrc hrs hfr hlo hws hcw (fun a' U hW => word_at hW (Or.inl (by first | rfl | simp [Cond.onTables, Cond.keeps, Cond.steady])) hini)
  obtain ⟨hx, hb, hml, ho, -⟩ := S
  obtain ⟨-, ⟨cellB, hcB, hoB, hclB⟩, hPc⟩ := hp
  intro T hT X
  rcases vx_callVX X hx (C := C) (hh := hh) (bytes := bytes) (maxL := maxL) (ret := ret) ho hl hin hse hcode hy hK (by rw [hT]; exact hcB) hoB hclB hg (hsize.trans hml.symm) (argsL := As) (rest := rest) (fun sig h => hn.trans (hlen sig h)) hstack hW (by rw [hb]; exact hdg)
    (fun vm₁ hW₁ => ⟨hf.1, hf.2, hPc (T.setVm vm₁) hT hW₁⟩) with ⟨v, vm₁, ⟨U', l2, c2, s2⟩, hW₁, X', ⟨g', mk, t, L, e1, e2, hq, h1, hL, h2, h3⟩, st⟩ | ⟨q, vm₁, ⟨U', l2, c2, s2⟩, hW₁, X', ⟨g', mk, t, L, E, ce, e1, e2, hq, hce, hcv, hcl, h1, hL, h2, h3⟩, st⟩
  · dsimp only [Pt.U, Pt.locs, Pt.cells, Pt.slots] at X' e1 e2 h1 h2 h3 st
    subst h1; subst h2; subst h3
    exact Or.inl ⟨v, (T.setVm vm₁).calling g' mk (Value.ref b :: As).toArray, t, U', L, hT, X', hL, e1, e2, hq, st⟩
  · dsimp only [Pt.U, Pt.locs, Pt.cells, Pt.slots] at X' e1 e2 h1 h2 h3 st hcl
    subst h1; subst h2; subst h3
    exact Or.inr ⟨q, (T.setVm vm₁).calling g' mk (Value.ref b :: As).toArray, t, U', L, E, ce, hT, X', hL, e1, e2, hq, hce, hcv, vx_cls hW₁ hcl, st⟩
theorem vx_runSX {hh : List (Nat × Nat × Nat × Nat)} (S : CallFix p m c cc nL s args Ts own) (hM : vx_Met l y ws rm Pc Qc XC mc ms free) (cw : vx_CSW R s args own index y bytes maxL ret hh ws rm mc ms n) (hp : PreS s H Pc As)
    (hg : g.method = m) (hn : As.length = n) (hsize : g.locals.size = nL) (hstack : g.stack = As.reverse ++ rest) (hW : 2 * g.monitorRoom + (rest.map fun v => v.category).sum ≤ 8) (hdg : decode cc g.pc = .ok (.invokestatic index, 3)) (hf : cells + mc ≤ R.cells ∧ slots + ms ≤ R.slots) :
    vx_Run p l e R s m args below meth c H locs cells slots mc ms g rest (Qc As.toArray) XC free := by
  obtain ⟨⟨hrc, hrs, hfr, hlo, hws, hcw⟩, hcode, hini, hy, hlen, hl, hstt⟩ := cw
  have hK : vx_Back l R p e below s args y 3 8 (PreOf R mc ms Pc) (PostOf Qc mc ms free) (vx_Post XC mc ms free) := vx_backW (hh := hh) (bytes := bytes) (maxL := maxL) (ret := ret) hM hp.1 hrc hrs hfr hlo hws hcw (fun a' U hW => word_at hW (Or.inl (by first | rfl | simp [Cond.onTables, Cond.keeps, Cond.steady])) hini)
  obtain ⟨hx, hb, hml, ho, -⟩ := S
  intro T hT X
  rcases vx_callSX X hx (hh := hh) (bytes := bytes) (maxL := maxL) (ret := ret) ho hl hstt hini hcode hy hK hg (hsize.trans hml.symm) (argsL := As) (rest := rest) (fun sig h => hn.trans (hlen sig h)) hstack hW (by rw [hb]; exact hdg)
    (fun vm₁ hW₁ => ⟨hf.1, hf.2, hp.2 (T.setVm vm₁) hT hW₁⟩) with ⟨v, vm₁, ⟨U', l2, c2, s2⟩, hW₁, X', ⟨g', mk, t, L, e1, e2, hq, h1, hL, h2, h3⟩, st⟩ | ⟨q, vm₁, ⟨U', l2, c2, s2⟩, hW₁, X', ⟨g', mk, t, L, E, ce, e1, e2, hq, hce, hcv, hcl, h1, hL, h2, h3⟩, st⟩
  · dsimp only [Pt.U, Pt.locs, Pt.cells, Pt.slots] at X' e1 e2 h1 h2 h3 st
    subst h1; subst h2; subst h3
    exact Or.inl ⟨v, (T.setVm vm₁).calling g' mk As.toArray, t, U', L, hT, X', hL, e1, e2, hq, st⟩
  · dsimp only [Pt.U, Pt.locs, Pt.cells, Pt.slots] at X' e1 e2 h1 h2 h3 st hcl
    subst h1; subst h2; subst h3
    exact Or.inr ⟨q, (T.setVm vm₁).calling g' mk As.toArray, t, U', L, E, ce, hT, X', hL, e1, e2, hq, hce, hcv, vx_cls hW₁ hcl, st⟩
end
end VXH
theorem vx_ofWH {l : Launch} {y : MethodName} {ws ws' : List Cond} {rm : Room} {Pc : Array Value → State → Prop} {Qc : Array Value → State → Outcome → State → Prop} {XC : String → State → State → Prop} {mc ms : Nat} {free : Addr → Prop} {cc : ByteArray} {maxL : Nat} {ret : Option FieldType} {hh : List (Nat × Nat × Nat × Nat)}
    (hy : plainName y.cls = true) (hw : ws = Cond.codeWith y cc maxL ret hh :: ws')
    (body : ∀ p e s m args below meth c s₁, BodyLoose p l y (headSpec ws rm) cc maxL ret e s m args below meth c s₁ → c.maxLocals = maxL → Pc args s →
      W p l e (headSpec ws rm).room s m args below meth c s.heap [] 0 0 (vx_MQ below Qc XC args s mc ms free) (entryFrame m args maxL)) : vx_Met l y ws rm Pc Qc XC mc ms free := by
  refine MetFree.of_bodyS (code := cc) (maxLocals := maxL) (ret := ret) hy ?_ ?_
  · intro args s m h hn
    obtain ⟨m9, meth, c, hn9, h1, h2, h3, h4, -, h5, h6, -⟩ := Cond.codeWith_spec (atoms_spec (ws := ws) h _ (by rw [hw]; exact List.mem_cons_self))
    cases hn.symm.trans hn9
    exact ⟨meth, c, h1, h2, h3, h4, h5, h6⟩
  · intro p e s m args below meth c s₁ B hml hP _
    have hh0 : s₁.heap = s.heap := by rw [B.state]; rfl
    obtain ⟨t, a1, o, b1, b2, b3⟩ := body p e s m args below meth c s₁ B hml hP s₁ hh0 (Stand.of_body B)
    exact ⟨t, o, a1, b1, b2, b3⟩
/-! ===== END ===== -/
end
section
/-! THE WORLD: all cells that the class, the reference and the law have made, as one finite map by addresses: L the addresses, K each one's kind (a class of 'classes' below 100; 100 Object[], 101 int[], 102 long[], 103 boolean[]), I, R, J its int, reference and long fields or places, N an array's length -/
abbrev Wd : Type := List Nat × (Nat → Nat) × (Nat → Nat → Int32) × (Nat → Nat → Option Nat) × (Nat → Nat → Int64) × (Nat → Nat)
def wL (w : Wd) : List Nat := w.1
def wK (w : Wd) : Nat → Nat := w.2.1
def wI (w : Wd) : Nat → Nat → Int32 := w.2.2.1
def wR (w : Wd) : Nat → Nat → Option Nat := w.2.2.2.1
def wJ (w : Wd) : Nat → Nat → Int64 := w.2.2.2.2.1
def wN (w : Wd) : Nat → Nat := w.2.2.2.2.2
def sI (w : Wd) (a k : Nat) (v : Int32) : Wd := (wL w, wK w, va_up (wI w) a (va_up (wI w a) k v), wR w, wJ w, wN w)
def sR (w : Wd) (a k : Nat) (v : Option Nat) : Wd := (wL w, wK w, wI w, va_up (wR w) a (va_up (wR w a) k v), wJ w, wN w)
def sJ (w : Wd) (a k : Nat) (v : Int64) : Wd := (wL w, wK w, wI w, wR w, va_up (wJ w) a (va_up (wJ w a) k v), wN w)
/-- a row of references is set whole (a copy of an array) -/
def sRow (w : Wd) (a : Nat) (f : Nat → Option Nat) : Wd := (wL w, wK w, wI w, va_up (wR w) a f, wJ w, wN w)
/-- a new cell q of kind kd with n places (0 for an object) -/
def bw_new (w : Wd) (q kd n : Nat) : Wd := (wL w ++ [q], va_up (wK w) q kd, va_up (wI w) q (fun _ => 0), va_up (wR w) q (fun _ => none), va_up (wJ w) q (fun _ => 0), va_up (wN w) q n)
def bw_is (w : Wd) (a ci : Nat) : Prop := a ∈ wL w ∧ wK w a = ci
def bw_v (t : Nat) (i : Int32) (r : Option Nat) (j : Int64) : Value := match t with
  | 0 => .int i
  | 1 => va_rf r
  | _ => .long j
def bw_f : List Nat → Nat → (Nat → Int32) → (Nat → Option Nat) → (Nat → Int64) → List Value
  | [], _, _, _, _ => []
  | t :: ts, k, i, r, j => bw_v t (i k) (r k) (j k) :: bw_f ts (k + 1) i r j
theorem bw_f_get : ∀ (ts : List Nat) (k0 : Nat) (i : Nat → Int32) (r : Nat → Option Nat) (j : Nat → Int64) (n : Nat), (bw_f ts k0 i r j)[n]? = (ts[n]?).map (fun t => bw_v t (i (k0 + n)) (r (k0 + n)) (j (k0 + n)))
  | [], _, _, _, _, _ => by simp [bw_f]
  | t :: ts, k0, i, r, j, 0 => by simp [bw_f]
  | t :: ts, k0, i, r, j, n + 1 => by
    simp only [bw_f, List.getElem?_cons_succ]
    rw [bw_f_get ts (k0 + 1) i r j n, show k0 + 1 + n = k0 + (n + 1) by omega]
theorem bw_f_len : ∀ (ts : List Nat) (k0 : Nat) (i : Nat → Int32) (r : Nat → Option Nat) (j : Nat → Int64), (bw_f ts k0 i r j).length = ts.length
  | [], _, _, _, _ => rfl
  | t :: ts, k0, i, r, j => by simp [bw_f, bw_f_len ts]
/-- what lies at places below k0, or of another type, doesn't matter -/
theorem bw_f_eq : ∀ (ts : List Nat) (k0 : Nat) (i i' : Nat → Int32) (r r' : Nat → Option Nat) (j j' : Nat → Int64), (∀ n t, ts[n]? = some t → bw_v t (i (k0 + n)) (r (k0 + n)) (j (k0 + n)) = bw_v t (i' (k0 + n)) (r' (k0 + n)) (j' (k0 + n))) → bw_f ts k0 i r j = bw_f ts k0 i' r' j' := by
  intro ts k0 i i' r r' j j' h
  apply List.ext_getElem?
  intro n
  rw [bw_f_get, bw_f_get]
  cases ht : ts[n]? with
  | none => rfl
  | some t => simp only [Option.map_some]; rw [h n t ht]
theorem bw_f_set (ts : List Nat) (i : Nat → Int32) (r : Nat → Option Nat) (j : Nat → Int64) (k t : Nat) (v : Value) (i' : Nat → Int32) (r' : Nat → Option Nat) (j' : Nat → Int64) (ht : ts[k]? = some t) (hv : v = bw_v t (i' k) (r' k) (j' k)) (ho : ∀ n u, n ≠ k → ts[n]? = some u → bw_v u (i n) (r n) (j n) = bw_v u (i' n) (r' n) (j' n)) :
    (bw_f ts 0 i r j).set k v = bw_f ts 0 i' r' j' := by
  have hk : k < ts.length := (List.getElem?_eq_some_iff.mp ht).1
  apply List.ext_getElem?
  intro n
  by_cases hn : n = k
  · subst hn
    rw [List.getElem?_set_self (by rw [bw_f_len]; exact hk), bw_f_get, ht]
    simp only [Option.map_some, Nat.zero_add]
    rw [hv]
  · rw [List.getElem?_set_ne (Ne.symm hn), bw_f_get, bw_f_get]
    cases hu : ts[n]? with
    | none => rfl
    | some u =>
      simp only [Option.map_some, Nat.zero_add]
      rw [ho n u hn hu]
theorem bw_setI (ts : List Nat) (i : Nat → Int32) (r : Nat → Option Nat) (j : Nat → Int64) (k : Nat) (v : Int32) (ht : ts[k]? = some 0) : (bw_f ts 0 i r j).set k (.int v) = bw_f ts 0 (va_up i k v) r j :=
  bw_f_set ts i r j k 0 _ _ _ _ ht (by rw [va_up_self]; rfl) (fun n u hn _ => by rw [va_up_ne _ _ hn])
theorem bw_setR (ts : List Nat) (i : Nat → Int32) (r : Nat → Option Nat) (j : Nat → Int64) (k : Nat) (v : Option Nat) (ht : ts[k]? = some 1) : (bw_f ts 0 i r j).set k (va_rf v) = bw_f ts 0 i (va_up r k v) j :=
  bw_f_set ts i r j k 1 _ _ _ _ ht (by rw [va_up_self]; rfl) (fun n u hn _ => by rw [va_up_ne _ _ hn])
theorem bw_setJ (ts : List Nat) (i : Nat → Int32) (r : Nat → Option Nat) (j : Nat → Int64) (k : Nat) (v : Int64) (ht : ts[k]? = some 2) : (bw_f ts 0 i r j).set k (.long v) = bw_f ts 0 i r (va_up j k v) :=
  bw_f_set ts i r j k 2 _ _ _ _ ht (by rw [va_up_self]; rfl) (fun n u hn _ => by rw [va_up_ne _ _ hn])
/-- an array's contents by its kind -/
def bw_ar (kd : Nat) (i : Nat → Int32) (r : Nat → Option Nat) (j : Nat → Int64) : (Nat → Int32) ⊕ (Nat → Int64) ⊕ (Nat → UInt32) ⊕ (Nat → UInt64) ⊕ (Nat → Option Nat) :=
  if kd = 100 then .inr (.inr (.inr (.inr r))) else if kd = 102 then .inr (.inl j) else .inl i
/-- the cell of an address -/
def bw_c (FT : Nat → List Nat) (AC : Nat → ClassId) (w : Wd) (a : Nat) : va_E :=
  if wK w a < 100 then .inr (wK w a, bw_f (FT (wK w a)) 0 (wI w a) (wR w a) (wJ w a)) else .inl (AC (wK w a), wN w a, bw_ar (wK w a) (wI w a) (wR w a) (wJ w a))
theorem bw_c_o {FT : Nat → List Nat} {AC : Nat → ClassId} {w : Wd} {a ci : Nat} (h : wK w a = ci) (h1 : ci < 100) : bw_c FT AC w a = .inr (ci, bw_f (FT ci) 0 (wI w a) (wR w a) (wJ w a)) := by
  unfold bw_c; rw [h, if_pos h1]
theorem bw_c_a {FT : Nat → List Nat} {AC : Nat → ClassId} {w : Wd} {a kd : Nat} (h : wK w a = kd) (h1 : ¬ kd < 100) : bw_c FT AC w a = .inl (AC kd, wN w a, bw_ar kd (wI w a) (wR w a) (wJ w a)) := by
  unfold bw_c; rw [h, if_neg h1]
/-- the heap holds the world; it lies in A; nothing outside A has changed since H0 -/
def HW (D : va_G) (cl : List vw_C) (FT : Nat → List Nat) (AC : Nat → ClassId) (A : Nat → Prop) (H0 H : Heap) (locs : List Loc) (w : Wd) : Prop :=
  va_P D cl (va_pl (wL w) (bw_c FT AC w)) H ∧ va_D A (va_pl (wL w) (bw_c FT AC w)) ∧ va_S A H0 H locs
theorem bw_upc {FT : Nat → List Nat} {AC : Nat → ClassId} {w w' : Wd} {a : Nat} {x : va_E} (hK : wK w' = wK w) (hN : wN w' = wN w) (hx : bw_c FT AC w' a = x) (ho : ∀ b, b ≠ a → wI w' b = wI w b ∧ wR w' b = wR w b ∧ wJ w' b = wJ w b) : ∀ b, va_up (bw_c FT AC w) a x b = bw_c FT AC w' b := by
  intro b
  by_cases hb : b = a
  · subst hb; rw [va_up_self]; exact hx.symm
  · rw [va_up_ne _ _ hb]
    obtain ⟨h1, h2, h3⟩ := ho b hb
    unfold bw_c
    rw [hK, hN, h1, h2, h3]
/-- a cell has been written: the new world -/
theorem bw_put {D : va_G} {cl : List vw_C} {FT : Nat → List Nat} {AC : Nat → ClassId} {A : Nat → Prop} {H0 H H1 : Heap} {locs locs1 : List Loc} {w w' : Wd} {a q0 : Nat} {x : va_E} (hW : HW D cl FT AC A H0 H locs w) (ha : a ∈ wL w) (hq : (va_pl (wL w) (bw_c FT AC w))[q0]? = some (a, bw_c FT AC w a))
    (hP : va_P D cl ((va_pl (wL w) (bw_c FT AC w)).set q0 (a, x)) H1) (hD : va_D A ((va_pl (wL w) (bw_c FT AC w)).set q0 (a, x))) (hS : va_S A H0 H1 locs1)
    (hL : wL w' = wL w) (hu : ∀ b, va_up (bw_c FT AC w) a x b = bw_c FT AC w' b) : HW D cl FT AC A H0 H1 locs1 w' := by
  have e : (va_pl (wL w) (bw_c FT AC w)).set q0 (a, x) = va_pl (wL w') (bw_c FT AC w') := by
    have h1 := va_pl_set (X := []) (e := x) hW.2.1 ha hq
    rw [hL, ← va_pl_congr hu]
    exact h1
  rw [e] at hP hD
  exact ⟨hP, hD, hS⟩
/-- a cell is new: the new world -/
theorem bw_push {D : va_G} {cl : List vw_C} {FT : Nat → List Nat} {AC : Nat → ClassId} {A : Nat → Prop} {H0 H H1 : Heap} {locs locs1 : List Loc} {w : Wd} {q kd n : Nat} {x : va_E} (hW : HW D cl FT AC A H0 H locs w)
    (hP : va_P D cl (va_pl (wL w) (bw_c FT AC w) ++ [(q, x)]) H1) (hD : va_D A (va_pl (wL w) (bw_c FT AC w) ++ [(q, x)])) (hS : va_S A H0 H1 locs1)
    (hx : bw_c FT AC (bw_new w q kd n) q = x) : q ∉ wL w ∧ HW D cl FT AC A H0 H1 locs1 (bw_new w q kd n) := by
  have hq : q ∉ wL w := by
    intro h
    obtain ⟨k, hk⟩ := va_pl_get (X := []) (f := bw_c FT AC w) h
    have hk' : (va_pl (wL w) (bw_c FT AC w))[k]? = some (q, bw_c FT AC w q) := hk
    have hlt := (List.getElem?_eq_some_iff.mp hk').1
    have h1 : (va_pl (wL w) (bw_c FT AC w) ++ [(q, x)])[k]? = some (q, bw_c FT AC w q) := by rw [List.getElem?_append_left hlt]; exact hk'
    have h2 : (va_pl (wL w) (bw_c FT AC w) ++ [(q, x)])[(va_pl (wL w) (bw_c FT AC w)).length]? = some (q, x) := by rw [List.getElem?_append_right (Nat.le_refl _)]; simp
    have := hD.1 _ _ _ _ h1 h2 rfl
    omega
  have e : va_pl (wL w) (bw_c FT AC w) ++ [(q, x)] = va_pl (wL (bw_new w q kd n)) (bw_c FT AC (bw_new w q kd n)) := by
    rw [va_pl_push hq]
    show va_pl (wL w ++ [q]) _ = va_pl (wL w ++ [q]) _
    refine va_pl_congr (fun b => ?_)
    by_cases hb : b = q
    · subst hb; rw [va_up_self]; exact hx.symm
    · rw [va_up_ne _ _ hb]
      have e1 : wK (bw_new w q kd n) b = wK w b := va_up_ne _ _ hb
      have e2 : wI (bw_new w q kd n) b = wI w b := va_up_ne _ _ hb
      have e3 : wR (bw_new w q kd n) b = wR w b := va_up_ne _ _ hb
      have e4 : wJ (bw_new w q kd n) b = wJ w b := va_up_ne _ _ hb
      have e5 : wN (bw_new w q kd n) b = wN w b := va_up_ne _ _ hb
      unfold bw_c
      rw [e1, e2, e3, e4, e5]
  rw [e] at hP hD
  exact ⟨hq, hP, hD, hS⟩
end
section
/-! ROWS OF INSTRUCTIONS over the world: references are va_rf of an Option Nat everywhere -/
section BWR
variable {p : Program} {l : Launch} {e : Env} {R : Room} {s : State} {m : MethodId} {args : Array Value} {below : List Frame} {meth : Method} {c : Code} {H : Heap} {locs : List Loc} {cells slots : Nat} {Q : State → Prop}
variable {cc : ByteArray} {pc : Nat} {ls : Array Slot} {rest : List Value} {D : va_G} {cl : List vw_C} {FT : Nat → List Nat} {AC : Nat → ClassId} {A : Nat → Prop} {H0 : Heap} {w : Wd} {tys : List (ClassId × FieldType)}
theorem bw_aload_n (hexec : p.tables.exec = Jvm.exec) (hb : c.code = cc) {k : Fin 4} {i : Nat} {r : Option Nat} (hdg : decode cc pc = .ok (.aload_n k, 1)) (hi : (k : Nat) = i) (hl : ls[i]? = some (.val (va_rf r)))
    (kk : W p l e R s m args below meth c H locs cells slots Q (F0 m (pc + 1) ls (va_rf r :: rest))) : W p l e R s m args below meth c H locs cells slots Q (F0 m pc ls rest) := by
  cases r with
  | none => exact lv_aload_nN hexec hb hdg hi hl kk
  | some x => exact lv_aload_n hexec hb hdg hi hl kk
theorem bw_aload (hexec : p.tables.exec = Jvm.exec) (hb : c.code = cc) {i : Nat} {r : Option Nat} (hdg : decode cc pc = .ok (.aload i, 2)) (hl : ls[i]? = some (.val (va_rf r)))
    (kk : W p l e R s m args below meth c H locs cells slots Q (F0 m (pc + 2) ls (va_rf r :: rest))) : W p l e R s m args below meth c H locs cells slots Q (F0 m pc ls rest) := by
  cases r with
  | none => exact lv_aloadN hexec hb hdg hl kk
  | some x => exact lv_aload hexec hb hdg hl kk
theorem bw_astore_n (hexec : p.tables.exec = Jvm.exec) (hb : c.code = cc) {k : Fin 4} {i nL : Nat} {r : Option Nat} {lv lv' : List (Nat × Value)} (hdg : decode cc pc = .ok (.astore_n k, 1)) (hi : (k : Nat) = i) (h : lv_has ls nL lv) (hn : i < nL) (hl : (i, va_rf r) :: lv.filter (fun q => !(q.1 == i) && !(q.1 + 1 == i && q.2.category == 2)) = lv')
    (kk : ∀ ls' : Array Slot, lv_has ls' nL lv' → W p l e R s m args below meth c H locs cells slots Q (F0 m (pc + 1) ls' rest)) : W p l e R s m args below meth c H locs cells slots Q (F0 m pc ls (va_rf r :: rest)) := by
  cases r with
  | none => exact lv_astore_nN hexec hb hdg hi h hn hl kk
  | some x => exact lv_astore_n hexec hb hdg hi h hn hl kk
theorem bw_astore (hexec : p.tables.exec = Jvm.exec) (hb : c.code = cc) {i nL : Nat} {r : Option Nat} {lv lv' : List (Nat × Value)} (hdg : decode cc pc = .ok (.astore i, 2)) (h : lv_has ls nL lv) (hn : i < nL) (hl : (i, va_rf r) :: lv.filter (fun q => !(q.1 == i) && !(q.1 + 1 == i && q.2.category == 2)) = lv')
    (kk : ∀ ls' : Array Slot, lv_has ls' nL lv' → W p l e R s m args below meth c H locs cells slots Q (F0 m (pc + 2) ls' rest)) : W p l e R s m args below meth c H locs cells slots Q (F0 m pc ls (va_rf r :: rest)) := by
  cases r with
  | none => exact lv_astoreN hexec hb hdg h hn hl kk
  | some x => exact lv_astore hexec hb hdg h hn hl kk
theorem bw_topr {r : Option Nat} (k : ∀ y : Option Nat, y = r → W p l e R s m args below meth c H locs cells slots Q (F0 m pc ls (va_rf y :: rest))) : W p l e R s m args below meth c H locs cells slots Q (F0 m pc ls (va_rf r :: rest)) := k r rfl
theorem bw_cat (r : Option Nat) : (va_rf r).category = 1 := by cases r <;> rfl
theorem bw_null (hexec : p.tables.exec = Jvm.exec) (hb : c.code = cc) (hdg : decode cc pc = .ok (.aconst_null, 1)) (k : W p l e R s m args below meth c H locs cells slots Q (F0 m (pc + 1) ls (va_rf none :: rest))) : W p l e R s m args below meth c H locs cells slots Q (F0 m pc ls rest) := lv_null hexec hb hdg k
theorem bw_ifnull (hexec : p.tables.exec = Jvm.exec) (hb : c.code = cc) {r : Option Nat} {off : Int} {tgt : Nat} (hdg : decode cc pc = .ok (.ifnull off, 3)) (ht : (pc : Int) + off = (tgt : Int))
    (kt : r = none → W p l e R s m args below meth c H locs cells slots Q (F0 m tgt ls rest)) (kf : ¬ r = none → W p l e R s m args below meth c H locs cells slots Q (F0 m (pc + 3) ls rest)) : W p l e R s m args below meth c H locs cells slots Q (F0 m pc ls (va_rf r :: rest)) := by
  cases r with
  | none => exact lv_ifnullN hexec hb hdg ht (kt rfl)
  | some x => exact lv_ifnull hexec hb hdg (kf (by simp))
theorem bw_ifnonnull (hexec : p.tables.exec = Jvm.exec) (hb : c.code = cc) {r : Option Nat} {off : Int} {tgt : Nat} (hdg : decode cc pc = .ok (.ifnonnull off, 3)) (ht : (pc : Int) + off = (tgt : Int))
    (kt : ¬ r = none → W p l e R s m args below meth c H locs cells slots Q (F0 m tgt ls rest)) (kf : r = none → W p l e R s m args below meth c H locs cells slots Q (F0 m (pc + 3) ls rest)) : W p l e R s m args below meth c H locs cells slots Q (F0 m pc ls (va_rf r :: rest)) := by
  cases r with
  | none => exact lv_ifnonnullN hexec hb hdg (kf rfl)
  | some x => exact lv_ifnonnull hexec hb hdg ht (kt (by simp))
/-- fields -/
theorem bw_getI (hexec : p.tables.exec = Jvm.exec) (hb : c.code = cc) {own ref C : String} {T : u_T} {N ci index a : Nat} {r : Option Nat} {Ts : List Cond} (hts : ∀ w ∈ Ts, w.before args s = true) (hin : ∀ w ∈ u_ws C T N, w ∈ Ts) (hown : s.vm.findClass own = some m.cls) (hK : va_K D cl tys s) (hW : HW D cl FT AC A H0 H locs w) (hr : r = some a) (ha : bw_is w a ci) (h100 : ci < 100) (hc : cl[ci]? = some (C, T, N)) (k : Nat) (hk : k < N) (hft : (FT ci)[k]? = some 0) (hlink : (Cond.fieldLink own index ref (T k).2.1 (T k).2.2.1).before args s = true) (hsame : ∀ x, s.fieldFound? (T k).1 (T k).2.1 (T k).2.2.1 = some x → s.fieldFound? ref (T k).2.1 (T k).2.2.1 = some x) (hdg : decode cc pc = .ok (.getfield index, 3))
    (kk : W p l e R s m args below meth c H locs cells slots Q (F0 m (pc + 3) ls (.int (wI w a k) :: rest))) : W p l e R s m args below meth c H locs cells slots Q (F0 m pc ls (va_rf r :: rest)) := by
  subst hr
  obtain ⟨q0, hq⟩ := va_pl_get (X := []) (f := bw_c FT AC w) ha.1
  rw [bw_c_o ha.2 h100] at hq
  exact va_get hexec hb hts hin hown hK hW.1 q0 hq hc k hk hlink hsame (by rw [bw_f_get, hft]; simp only [Option.map_some, Nat.zero_add]; rfl) hdg kk
theorem bw_getR (hexec : p.tables.exec = Jvm.exec) (hb : c.code = cc) {own ref C : String} {T : u_T} {N ci index a : Nat} {r : Option Nat} {Ts : List Cond} (hts : ∀ w ∈ Ts, w.before args s = true) (hin : ∀ w ∈ u_ws C T N, w ∈ Ts) (hown : s.vm.findClass own = some m.cls) (hK : va_K D cl tys s) (hW : HW D cl FT AC A H0 H locs w) (hr : r = some a) (ha : bw_is w a ci) (h100 : ci < 100) (hc : cl[ci]? = some (C, T, N)) (k : Nat) (hk : k < N) (hft : (FT ci)[k]? = some 1) (hlink : (Cond.fieldLink own index ref (T k).2.1 (T k).2.2.1).before args s = true) (hsame : ∀ x, s.fieldFound? (T k).1 (T k).2.1 (T k).2.2.1 = some x → s.fieldFound? ref (T k).2.1 (T k).2.2.1 = some x) (hdg : decode cc pc = .ok (.getfield index, 3))
    (kk : W p l e R s m args below meth c H locs cells slots Q (F0 m (pc + 3) ls (va_rf (wR w a k) :: rest))) : W p l e R s m args below meth c H locs cells slots Q (F0 m pc ls (va_rf r :: rest)) := by
  subst hr
  obtain ⟨q0, hq⟩ := va_pl_get (X := []) (f := bw_c FT AC w) ha.1
  rw [bw_c_o ha.2 h100] at hq
  exact va_get hexec hb hts hin hown hK hW.1 q0 hq hc k hk hlink hsame (by rw [bw_f_get, hft]; simp only [Option.map_some, Nat.zero_add]; rfl) hdg kk
theorem bw_putI (hexec : p.tables.exec = Jvm.exec) (hb : c.code = cc) {own ref C : String} {T : u_T} {N ci index a : Nat} {r : Option Nat} {Ts : List Cond} (hts : ∀ w ∈ Ts, w.before args s = true) (hin : ∀ w ∈ u_ws C T N, w ∈ Ts) (ty0 : Nat → FieldType) (hty : ∀ k, k < N → parseFieldDescriptor (T k).2.2.1 = some (ty0 k)) (hnm : ∀ a, a < N → ∀ b, b < N → a ≠ b → (T a).2.1 ≠ (T b).2.1) (hown : s.vm.findClass own = some m.cls) (hK : va_K D cl tys s) (hW : HW D cl FT AC A H0 H locs w) (hr : r = some a) (ha : bw_is w a ci) (h100 : ci < 100) (hc : cl[ci]? = some (C, T, N)) (k : Nat) (hk : k < N) (hft : (FT ci)[k]? = some 0) (hlink : (Cond.fieldLink own index ref (T k).2.1 (T k).2.2.1).before args s = true) (hsame : ∀ x, s.fieldFound? (T k).1 (T k).2.1 (T k).2.2.1 = some x → s.fieldFound? ref (T k).2.1 (T k).2.2.1 = some x)
    (hfin : (T k).2.2.2 = false ∨ ((T k).2.2.2 = true ∧ meth.name = "<init>" ∧ (T k).1 = own)) {v : Int32} (hn : narrow (ty0 k) (.int v) = .int v) (hfit : fits (ty0 k) (.int v) = true) (hdg : decode cc pc = .ok (.putfield index, 3))
    (kk : ∀ (H1 : Heap) (locs1 : List Loc), HW D cl FT AC A H0 H1 locs1 (sI w a k v) → W p l e R s m args below meth c H1 locs1 cells slots Q (F0 m (pc + 3) ls rest)) : W p l e R s m args below meth c H locs cells slots Q (F0 m pc ls (.int v :: va_rf r :: rest)) := by
  subst hr
  obtain ⟨q0, hq⟩ := va_pl_get (X := []) (f := bw_c FT AC w) ha.1
  have hq2 := hq
  rw [bw_c_o ha.2 h100] at hq2
  have hlen : k < (bw_f (FT ci) 0 (wI w a) (wR w a) (wJ w a)).length := by rw [bw_f_len]; exact (List.getElem?_eq_some_iff.mp hft).1
  have kk2 : ∀ (H1 : Heap) (locs1 : List Loc), va_P D cl ((va_pl (wL w) (bw_c FT AC w)).set q0 (a, .inr (ci, (bw_f (FT ci) 0 (wI w a) (wR w a) (wJ w a)).set k (.int v)))) H1 → va_D A ((va_pl (wL w) (bw_c FT AC w)).set q0 (a, .inr (ci, (bw_f (FT ci) 0 (wI w a) (wR w a) (wJ w a)).set k (.int v)))) → va_S A H0 H1 locs1 → W p l e R s m args below meth c H1 locs1 cells slots Q (F0 m (pc + 3) ls rest) := by
    intro H1 locs1 hP hD hS
    refine kk H1 locs1 (bw_put (w' := sI w a k v) hW ha.1 hq hP hD hS rfl (bw_upc rfl rfl ?_ (fun b hb => ⟨va_up_ne _ _ hb, rfl, rfl⟩)))
    rw [bw_c_o (w := sI w a k v) (ci := ci) ha.2 h100, bw_setI _ _ _ _ _ _ hft]
    show Sum.inr (ci, bw_f (FT ci) 0 (va_up (wI w) a (va_up (wI w a) k v) a) (wR w a) (wJ w a)) = _
    rw [va_up_self]
  rcases hfin with hf | ⟨hf, hi, ho⟩
  · exact va_put hexec hb hts hin ty0 hty hnm hown hK hW.1 hW.2.1 hW.2.2 q0 hq2 hc k hk hlink hsame hf (hty k hk) hn hfit hlen hdg kk2
  · exact va_putF hexec hb hts hin ty0 hty hnm hown hK hW.1 hW.2.1 hW.2.2 q0 hq2 hc k hk hlink hsame hf hi ho (hty k hk) hn hfit hlen hdg kk2
theorem bw_putR (hexec : p.tables.exec = Jvm.exec) (hb : c.code = cc) {own ref C : String} {T : u_T} {N ci index a : Nat} {r : Option Nat} {Ts : List Cond} (hts : ∀ w ∈ Ts, w.before args s = true) (hin : ∀ w ∈ u_ws C T N, w ∈ Ts) (ty0 : Nat → FieldType) (hty : ∀ k, k < N → parseFieldDescriptor (T k).2.2.1 = some (ty0 k)) (hnm : ∀ a, a < N → ∀ b, b < N → a ≠ b → (T a).2.1 ≠ (T b).2.1) (hown : s.vm.findClass own = some m.cls) (hK : va_K D cl tys s) (hW : HW D cl FT AC A H0 H locs w) (hr : r = some a) (ha : bw_is w a ci) (h100 : ci < 100) (hc : cl[ci]? = some (C, T, N)) (k : Nat) (hk : k < N) (hft : (FT ci)[k]? = some 1) (hlink : (Cond.fieldLink own index ref (T k).2.1 (T k).2.2.1).before args s = true) (hsame : ∀ x, s.fieldFound? (T k).1 (T k).2.1 (T k).2.2.1 = some x → s.fieldFound? ref (T k).2.1 (T k).2.2.1 = some x)
    (hfin : (T k).2.2.2 = false ∨ ((T k).2.2.2 = true ∧ meth.name = "<init>" ∧ (T k).1 = own)) {v : Option Nat} (hn : narrow (ty0 k) (va_rf v) = va_rf v) (hfit : fits (ty0 k) (va_rf v) = true) (hdg : decode cc pc = .ok (.putfield index, 3))
    (kk : ∀ (H1 : Heap) (locs1 : List Loc), HW D cl FT AC A H0 H1 locs1 (sR w a k v) → W p l e R s m args below meth c H1 locs1 cells slots Q (F0 m (pc + 3) ls rest)) : W p l e R s m args below meth c H locs cells slots Q (F0 m pc ls (va_rf v :: va_rf r :: rest)) := by
  subst hr
  obtain ⟨q0, hq⟩ := va_pl_get (X := []) (f := bw_c FT AC w) ha.1
  have hq2 := hq
  rw [bw_c_o ha.2 h100] at hq2
  have hlen : k < (bw_f (FT ci) 0 (wI w a) (wR w a) (wJ w a)).length := by rw [bw_f_len]; exact (List.getElem?_eq_some_iff.mp hft).1
  have kk2 : ∀ (H1 : Heap) (locs1 : List Loc), va_P D cl ((va_pl (wL w) (bw_c FT AC w)).set q0 (a, .inr (ci, (bw_f (FT ci) 0 (wI w a) (wR w a) (wJ w a)).set k (va_rf v)))) H1 → va_D A ((va_pl (wL w) (bw_c FT AC w)).set q0 (a, .inr (ci, (bw_f (FT ci) 0 (wI w a) (wR w a) (wJ w a)).set k (va_rf v)))) → va_S A H0 H1 locs1 → W p l e R s m args below meth c H1 locs1 cells slots Q (F0 m (pc + 3) ls rest) := by
    intro H1 locs1 hP hD hS
    refine kk H1 locs1 (bw_put (w' := sR w a k v) hW ha.1 hq hP hD hS rfl (bw_upc rfl rfl ?_ (fun b hb => ⟨rfl, va_up_ne _ _ hb, rfl⟩)))
    rw [bw_c_o (w := sR w a k v) (ci := ci) ha.2 h100, bw_setR _ _ _ _ _ _ hft]
    show Sum.inr (ci, bw_f (FT ci) 0 (wI w a) (va_up (wR w) a (va_up (wR w a) k v) a) (wJ w a)) = _
    rw [va_up_self]
  rcases hfin with hf | ⟨hf, hi, ho⟩
  · exact va_put hexec hb hts hin ty0 hty hnm hown hK hW.1 hW.2.1 hW.2.2 q0 hq2 hc k hk hlink hsame hf (hty k hk) hn hfit hlen hdg kk2
  · exact va_putF hexec hb hts hin ty0 hty hnm hown hK hW.1 hW.2.1 hW.2.2 q0 hq2 hc k hk hlink hsame hf hi ho (hty k hk) hn hfit hlen hdg kk2
theorem bw_nr (C : String) (v : Option Nat) : narrow (.object C) (va_rf v) = va_rf v := by cases v <;> rfl
theorem bw_fr (C : String) (v : Option Nat) : fits (.object C) (va_rf v) = true := by cases v <;> rfl
theorem bw_nra (t : FieldType) (v : Option Nat) : narrow (.array t) (va_rf v) = va_rf v := by cases v <;> rfl
theorem bw_fra (t : FieldType) (v : Option Nat) : fits (.array t) (va_rf v) = true := by cases v <;> rfl
/-- a new object -/
theorem bw_mk (hexec : p.tables.exec = Jvm.exec) (hb : c.code = cc) {own C : String} {T : u_T} {N ci index : Nat} {Ts : List Cond} (hts : ∀ w ∈ Ts, w.before args s = true) (hin : ∀ w ∈ u_ws C T N, w ∈ Ts) (ty : Nat → FieldType) (hty : ∀ k, k < N → parseFieldDescriptor (T k).2.2.1 = some (ty k)) (hown : s.vm.findClass own = some m.cls) (hcl : (Cond.classLink own index C).before args s = true) (hinst : (Cond.instantiable C N).before args s = true) (hini : (Cond.initialized C).before args s = true)
    (hK : va_K D cl tys s) (hW : HW D cl FT AC A H0 H locs w) (hA : ∀ q, H0.size ≤ q → A q) (h100 : ci < 100) (hc : cl[ci]? = some (C, T, N)) (hfs : ∀ j, j < N → defaultValue (ty j) = vp_V (bw_f (FT ci) 0 (fun _ => 0) (fun _ => none) (fun _ => 0)) j) (hcells : cells + 1 ≤ R.cells) (hslots : slots + N ≤ R.slots) (hdg : decode cc pc = .ok (.new index, 3))
    (kk : ∀ (q : Nat) (H1 : Heap), q ∉ wL w → HW D cl FT AC A H0 H1 locs (bw_new w q ci 0) → W p l e R s m args below meth c H1 locs (cells + 1) (slots + N) Q (F0 m (pc + 3) ls (va_rf (some q) :: rest))) : W p l e R s m args below meth c H locs cells slots Q (F0 m pc ls rest) := by
  refine va_new hexec hb hts hin ty hty hown hcl hinst hini hK hW.1 hW.2.1 hW.2.2 hA hc hfs hcells hslots hdg (fun q H1 hP hD hS => ?_)
  have h := bw_push (w := w) (kd := ci) (n := 0) hW hP hD hS (by
    rw [bw_c_o (w := bw_new w q ci 0) (ci := ci) (va_up_self _ _ _) h100]
    show Sum.inr (ci, bw_f (FT ci) 0 (va_up (wI w) q (fun _ => 0) q) (va_up (wR w) q (fun _ => none) q) (va_up (wJ w) q (fun _ => 0) q)) = _
    rw [va_up_self, va_up_self, va_up_self])
  exact kk q H1 h.1 h.2
end BWR
end
section
/-! names: the words of the tables (those that keep), class tables; printed by wip/gen/names.py out of the Statement -/
def TBL : List Cond := lw_tbl.filter goodWord
theorem tg {ws : List Cond} (h : ∀ w ∈ ws, w ∈ TBL) : GoodIn TBL ws := fun w hw => ⟨h w hw, good_of_word (List.mem_filter.mp (h w hw)).2⟩
theorem tbl_in : ∀ w ∈ TBL, w ∈ lw_tbl := fun w h => (List.mem_filter.mp h).1
theorem tbl_1 {w : Cond} (i : Nat) (h : tables_1_1[i]? = some w) (g : goodWord w = true) : w ∈ TBL := List.mem_filter.mpr ⟨List.mem_append_right _ (List.mem_append_left _ (List.mem_of_getElem? h)), g⟩
theorem tbl_2 {w : Cond} (i : Nat) (h : tables_1_2[i]? = some w) (g : goodWord w = true) : w ∈ TBL := List.mem_filter.mpr ⟨List.mem_append_right _ (List.mem_append_right _ (List.mem_append_left _ (List.mem_of_getElem? h))), g⟩
theorem tbl_3 {w : Cond} (i : Nat) (h : tables_1_3[i]? = some w) (g : goodWord w = true) : w ∈ TBL := List.mem_filter.mpr ⟨List.mem_append_right _ (List.mem_append_right _ (List.mem_append_right _ (List.mem_append_left _ (List.mem_of_getElem? h)))), g⟩
theorem tbl_4 {w : Cond} (i : Nat) (h : tables_1_4[i]? = some w) (g : goodWord w = true) : w ∈ TBL := List.mem_filter.mpr ⟨List.mem_append_right _ (List.mem_append_right _ (List.mem_append_right _ (List.mem_append_right _ (List.mem_append_left _ (List.mem_of_getElem? h))))), g⟩
theorem tbl_5 {w : Cond} (i : Nat) (h : tables_1_5[i]? = some w) (g : goodWord w = true) : w ∈ TBL := List.mem_filter.mpr ⟨List.mem_append_right _ (List.mem_append_right _ (List.mem_append_right _ (List.mem_append_right _ (List.mem_append_right _ (List.mem_of_getElem? h))))), g⟩
theorem tbl_sel {y : MethodName × Nat} (i : Nat) (h : lw_privs[i]? = some y) : Cond.selects y.1.cls y.1 y.1 ∈ TBL := List.mem_filter.mpr ⟨List.mem_append_left _ (List.mem_map.mpr ⟨y, List.mem_of_getElem? h, rfl⟩), rfl⟩
theorem m_0 : (Jvm.Cond.initialized "BeltRowsLaw") ∈ TBL := tbl_1 0 rfl rfl
theorem m_1 : (Jvm.Cond.initialized "BeltRows") ∈ TBL := tbl_1 1 rfl rfl
theorem m_2 : (Jvm.Cond.initialized "java/util/AbstractCollection") ∈ TBL := tbl_1 2 rfl rfl
theorem m_3 : (Jvm.Cond.initialized "java/util/AbstractList") ∈ TBL := tbl_1 3 rfl rfl
theorem m_4 : (Jvm.Cond.initialized "java/util/ArrayList") ∈ TBL := tbl_1 4 rfl rfl
theorem m_5 : (Jvm.Cond.initialized "BeltRowsModel") ∈ TBL := tbl_1 5 rfl rfl
theorem m_6 : (Jvm.Cond.initialized "java/lang/Throwable") ∈ TBL := tbl_1 6 rfl rfl
theorem m_7 : (Jvm.Cond.initialized "java/lang/Exception") ∈ TBL := tbl_1 7 rfl rfl
theorem m_8 : (Jvm.Cond.initialized "java/lang/RuntimeException") ∈ TBL := tbl_1 8 rfl rfl
theorem m_9 : (Jvm.Cond.initialized "java/lang/IllegalArgumentException") ∈ TBL := tbl_1 9 rfl rfl
theorem m_10 : (Jvm.Cond.initialized "java/lang/UnsupportedOperationException") ∈ TBL := tbl_1 10 rfl rfl
theorem m_11 : (Jvm.Cond.initialized "BeltRows$Belt") ∈ TBL := tbl_1 11 rfl rfl
theorem m_12 : (Jvm.Cond.initialized "BeltRows$Way") ∈ TBL := tbl_1 12 rfl rfl
theorem m_13 : (Jvm.Cond.initialized "jdk/internal/util/ArraysSupport") ∈ TBL := tbl_1 13 rfl rfl
theorem m_14 : (Jvm.Cond.initialized "java/lang/Math") ∈ TBL := tbl_1 14 rfl rfl
theorem m_15 : (Jvm.Cond.initialized "java/util/Arrays") ∈ TBL := tbl_1 15 rfl rfl
theorem m_16 : (Jvm.Cond.initialized "java/lang/System") ∈ TBL := tbl_1 16 rfl rfl
theorem m_17 : (Jvm.Cond.initialized "java/util/NoSuchElementException") ∈ TBL := tbl_1 17 rfl rfl
theorem m_18 : (Jvm.Cond.initialized "java/util/Objects") ∈ TBL := tbl_1 18 rfl rfl
theorem m_19 : (Jvm.Cond.initialized "jdk/internal/util/Preconditions") ∈ TBL := tbl_1 19 rfl rfl
theorem m_20 : (Jvm.Cond.initialized "BeltRows$Scanner") ∈ TBL := tbl_1 20 rfl rfl
theorem m_21 : (Jvm.Cond.initialized "BeltRows$Item") ∈ TBL := tbl_1 21 rfl rfl
theorem m_22 : (Jvm.Cond.initialized "java/lang/IllegalStateException") ∈ TBL := tbl_1 22 rfl rfl
theorem m_23 : (Jvm.Cond.initialized "BeltRows$Edge") ∈ TBL := tbl_1 23 rfl rfl
theorem m_24 : (Jvm.Cond.initialized "java/lang/ArithmeticException") ∈ TBL := tbl_1 24 rfl rfl
theorem m_25 : (Jvm.Cond.classLink "BeltRowsLaw" (8 : Nat) "BeltRows") ∈ TBL := tbl_1 25 rfl rfl
theorem m_26 : (Jvm.Cond.instantiable "BeltRows" (9 : Nat)) ∈ TBL := tbl_1 26 rfl rfl
theorem m_27 : (Jvm.Cond.methodLink "BeltRowsLaw" (77 : Nat) ({ cls := "BeltRows", name := "<init>", desc := "()V" } : Jvm.MethodName)) ∈ TBL := tbl_1 27 rfl rfl
theorem m_28 : (Jvm.Cond.instanceMethod ({ cls := "BeltRows", name := "<init>", desc := "()V" } : Jvm.MethodName)) ∈ TBL := tbl_1 28 rfl rfl
theorem m_29 : (Jvm.Cond.code ({ cls := "BeltRows", name := "<init>", desc := "()V" } : Jvm.MethodName) prog_1_method_1_code (1 : Nat) (Option.none : Option Jvm.ClassFile.FieldType)) ∈ TBL := tbl_1 29 rfl rfl
theorem m_30 : (Jvm.Cond.methodLink "BeltRows" (1 : Nat) ({ cls := "java/lang/Object", name := "<init>", desc := "()V" } : Jvm.MethodName)) ∈ TBL := tbl_1 30 rfl rfl
theorem m_31 : (Jvm.Cond.instanceMethod ({ cls := "java/lang/Object", name := "<init>", desc := "()V" } : Jvm.MethodName)) ∈ TBL := tbl_1 31 rfl rfl
theorem m_32 : (Jvm.Cond.code ({ cls := "java/lang/Object", name := "<init>", desc := "()V" } : Jvm.MethodName) object_method_1_code (1 : Nat) (Option.none : Option Jvm.ClassFile.FieldType)) ∈ TBL := tbl_1 32 rfl rfl
theorem m_33 : (Jvm.Cond.classLink "BeltRows" (7 : Nat) "java/util/ArrayList") ∈ TBL := tbl_1 33 rfl rfl
theorem m_34 : (Jvm.Cond.instantiable "java/util/ArrayList" (3 : Nat)) ∈ TBL := tbl_1 34 rfl rfl
theorem m_35 : (Jvm.Cond.methodLink "BeltRows" (9 : Nat) ({ cls := "java/util/ArrayList", name := "<init>", desc := "()V" } : Jvm.MethodName)) ∈ TBL := tbl_1 35 rfl rfl
theorem m_36 : (Jvm.Cond.instanceMethod ({ cls := "java/util/ArrayList", name := "<init>", desc := "()V" } : Jvm.MethodName)) ∈ TBL := tbl_1 36 rfl rfl
theorem m_37 : (Jvm.Cond.code ({ cls := "java/util/ArrayList", name := "<init>", desc := "()V" } : Jvm.MethodName) prog_24_method_2_code (1 : Nat) (Option.none : Option Jvm.ClassFile.FieldType)) ∈ TBL := tbl_1 37 rfl rfl
theorem m_38 : (Jvm.Cond.methodLink "java/util/ArrayList" (1 : Nat) ({ cls := "java/util/AbstractList", name := "<init>", desc := "()V" } : Jvm.MethodName)) ∈ TBL := tbl_1 38 rfl rfl
theorem m_39 : (Jvm.Cond.instanceMethod ({ cls := "java/util/AbstractList", name := "<init>", desc := "()V" } : Jvm.MethodName)) ∈ TBL := tbl_1 39 rfl rfl
theorem m_40 : (Jvm.Cond.code ({ cls := "java/util/AbstractList", name := "<init>", desc := "()V" } : Jvm.MethodName) prog_23_method_1_code (1 : Nat) (Option.none : Option Jvm.ClassFile.FieldType)) ∈ TBL := tbl_1 40 rfl rfl
theorem m_41 : (Jvm.Cond.methodLink "java/util/AbstractList" (1 : Nat) ({ cls := "java/util/AbstractCollection", name := "<init>", desc := "()V" } : Jvm.MethodName)) ∈ TBL := tbl_1 41 rfl rfl
theorem m_42 : (Jvm.Cond.instanceMethod ({ cls := "java/util/AbstractCollection", name := "<init>", desc := "()V" } : Jvm.MethodName)) ∈ TBL := tbl_1 42 rfl rfl
theorem m_43 : (Jvm.Cond.code ({ cls := "java/util/AbstractCollection", name := "<init>", desc := "()V" } : Jvm.MethodName) prog_22_method_1_code (1 : Nat) (Option.none : Option Jvm.ClassFile.FieldType)) ∈ TBL := tbl_1 43 rfl rfl
theorem m_44 : (Jvm.Cond.methodLink "java/util/AbstractCollection" (1 : Nat) ({ cls := "java/lang/Object", name := "<init>", desc := "()V" } : Jvm.MethodName)) ∈ TBL := tbl_1 44 rfl rfl
theorem m_45 : (Jvm.Cond.fieldLink "java/util/ArrayList" (39 : Nat) "java/util/ArrayList" "DEFAULTCAPACITY_EMPTY_ELEMENTDATA" "[Ljava/lang/Object;") ∈ TBL := tbl_1 45 rfl rfl
theorem m_47 : (Jvm.Cond.fieldLink "java/util/ArrayList" (9 : Nat) "java/util/ArrayList" "elementData" "[Ljava/lang/Object;") ∈ TBL := tbl_1 47 rfl rfl
theorem m_48 : (Jvm.Cond.fieldLink "java/util/ArrayList" (48 : Nat) "java/util/ArrayList" "size" "I") ∈ TBL := tbl_1 48 rfl rfl
theorem m_49 : (Jvm.Cond.fieldLink "java/util/AbstractList" (7 : Nat) "java/util/AbstractList" "modCount" "I") ∈ TBL := tbl_1 49 rfl rfl
theorem m_50 : (Jvm.Cond.fieldLink "java/util/ArrayList" (63 : Nat) "java/util/ArrayList" "modCount" "I") ∈ TBL := tbl_1 50 rfl rfl
theorem m_51 : (Jvm.Cond.sameField "java/util/ArrayList" "java/util/AbstractList" "modCount" "I") ∈ TBL := tbl_1 51 rfl rfl
theorem m_52 : (Jvm.Cond.lays "java/util/ArrayList" "java/util/ArrayList" "elementData" "[Ljava/lang/Object;") ∈ TBL := tbl_1 52 rfl rfl
theorem m_54 : (Jvm.Cond.lays "java/util/ArrayList" "java/util/ArrayList" "size" "I") ∈ TBL := tbl_1 54 rfl rfl
theorem m_56 : (Jvm.Cond.lays "java/util/ArrayList" "java/util/AbstractList" "modCount" "I") ∈ TBL := tbl_1 56 rfl rfl
theorem m_59 : (Jvm.Cond.fieldLink "BeltRows" (10 : Nat) "BeltRows" "belts" "Ljava/util/ArrayList;") ∈ TBL := tbl_1 59 rfl rfl
theorem m_60 : (Jvm.Cond.fieldLink "BeltRows" (16 : Nat) "BeltRows" "items" "Ljava/util/ArrayList;") ∈ TBL := tbl_1 60 rfl rfl
theorem m_61 : (Jvm.Cond.fieldLink "BeltRows" (19 : Nat) "BeltRows" "scanners" "Ljava/util/ArrayList;") ∈ TBL := tbl_1 61 rfl rfl
theorem m_62 : (Jvm.Cond.fieldLink "BeltRows" (22 : Nat) "BeltRows" "edges" "Ljava/util/ArrayList;") ∈ TBL := tbl_1 62 rfl rfl
theorem m_63 : (Jvm.Cond.fieldLink "BeltRows" (25 : Nat) "BeltRows" "waiting" "Ljava/util/ArrayList;") ∈ TBL := tbl_1 63 rfl rfl
theorem m_64 : (Jvm.Cond.fieldLink "BeltRows" (28 : Nat) "BeltRows" "gone" "Ljava/util/ArrayList;") ∈ TBL := tbl_1 64 rfl rfl
theorem m_65 : (Jvm.Cond.fieldLink "BeltRows" (31 : Nat) "BeltRows" "leastGap" "I") ∈ TBL := tbl_1 65 rfl rfl
theorem m_66 : (Jvm.Cond.fieldLink "BeltRows" (35 : Nat) "BeltRows" "time" "I") ∈ TBL := tbl_1 66 rfl rfl
theorem m_67 : (Jvm.Cond.fieldLink "BeltRows" (38 : Nat) "BeltRows" "secondsOfGone" "I") ∈ TBL := tbl_1 67 rfl rfl
theorem m_68 : (Jvm.Cond.laysFinal "BeltRows" "BeltRows" "belts" "Ljava/util/ArrayList;") ∈ TBL := tbl_1 68 rfl rfl
theorem m_70 : (Jvm.Cond.laysFinal "BeltRows" "BeltRows" "items" "Ljava/util/ArrayList;") ∈ TBL := tbl_1 70 rfl rfl
theorem m_72 : (Jvm.Cond.laysFinal "BeltRows" "BeltRows" "scanners" "Ljava/util/ArrayList;") ∈ TBL := tbl_1 72 rfl rfl
theorem m_74 : (Jvm.Cond.laysFinal "BeltRows" "BeltRows" "edges" "Ljava/util/ArrayList;") ∈ TBL := tbl_1 74 rfl rfl
theorem m_76 : (Jvm.Cond.laysFinal "BeltRows" "BeltRows" "waiting" "Ljava/util/ArrayList;") ∈ TBL := tbl_1 76 rfl rfl
theorem m_78 : (Jvm.Cond.laysFinal "BeltRows" "BeltRows" "gone" "Ljava/util/ArrayList;") ∈ TBL := tbl_1 78 rfl rfl
theorem m_80 : (Jvm.Cond.lays "BeltRows" "BeltRows" "leastGap" "I") ∈ TBL := tbl_1 80 rfl rfl
theorem m_82 : (Jvm.Cond.lays "BeltRows" "BeltRows" "time" "I") ∈ TBL := tbl_1 82 rfl rfl
theorem m_84 : (Jvm.Cond.lays "BeltRows" "BeltRows" "secondsOfGone" "I") ∈ TBL := tbl_1 84 rfl rfl
theorem m_87 : (Jvm.Cond.methodLink "BeltRowsLaw" (144 : Nat) ({ cls := "BeltRows", name := "count", desc := "(I)I" } : Jvm.MethodName)) ∈ TBL := tbl_1 87 rfl rfl
theorem m_88 : (Jvm.Cond.instanceMethod ({ cls := "BeltRows", name := "count", desc := "(I)I" } : Jvm.MethodName)) ∈ TBL := tbl_1 88 rfl rfl
theorem m_89 : (Jvm.Cond.selects "BeltRows" ({ cls := "BeltRows", name := "count", desc := "(I)I" } : Jvm.MethodName) ({ cls := "BeltRows", name := "count", desc := "(I)I" } : Jvm.MethodName)) ∈ TBL := tbl_1 89 rfl rfl
theorem m_90 : (Jvm.Cond.code ({ cls := "BeltRows", name := "count", desc := "(I)I" } : Jvm.MethodName) prog_1_method_19_code (2 : Nat) (Option.some Jvm.ClassFile.FieldType.int)) ∈ TBL := tbl_1 90 rfl rfl
theorem m_91 : (Jvm.Cond.methodLink "BeltRows" (45 : Nat) ({ cls := "java/util/ArrayList", name := "size", desc := "()I" } : Jvm.MethodName)) ∈ TBL := tbl_1 91 rfl rfl
theorem m_92 : (Jvm.Cond.instanceMethod ({ cls := "java/util/ArrayList", name := "size", desc := "()I" } : Jvm.MethodName)) ∈ TBL := tbl_1 92 rfl rfl
theorem m_93 : (Jvm.Cond.selects "java/util/ArrayList" ({ cls := "java/util/ArrayList", name := "size", desc := "()I" } : Jvm.MethodName) ({ cls := "java/util/ArrayList", name := "size", desc := "()I" } : Jvm.MethodName)) ∈ TBL := tbl_1 93 rfl rfl
theorem m_94 : (Jvm.Cond.code ({ cls := "java/util/ArrayList", name := "size", desc := "()I" } : Jvm.MethodName) prog_24_method_8_code (1 : Nat) (Option.some Jvm.ClassFile.FieldType.int)) ∈ TBL := tbl_1 94 rfl rfl
theorem m_95 : (Jvm.Cond.methodLink "BeltRows" (222 : Nat) ({ cls := "BeltRows", name := "itemsOnBelts", desc := "()I" } : Jvm.MethodName)) ∈ TBL := tbl_1 95 rfl rfl
theorem m_97 : (Jvm.Cond.instanceMethod ({ cls := "BeltRows", name := "itemsOnBelts", desc := "()I" } : Jvm.MethodName)) ∈ TBL := tbl_1 97 rfl rfl
theorem m_98 : (Jvm.Cond.code ({ cls := "BeltRows", name := "itemsOnBelts", desc := "()I" } : Jvm.MethodName) prog_1_method_25_code (3 : Nat) (Option.some Jvm.ClassFile.FieldType.int)) ∈ TBL := tbl_1 98 rfl rfl
theorem m_99 : (Jvm.Cond.methodLink "BeltRows" (140 : Nat) ({ cls := "java/util/ArrayList", name := "get", desc := "(I)Ljava/lang/Object;" } : Jvm.MethodName)) ∈ TBL := tbl_1 99 rfl rfl
theorem m_100 : (Jvm.Cond.instanceMethod ({ cls := "java/util/ArrayList", name := "get", desc := "(I)Ljava/lang/Object;" } : Jvm.MethodName)) ∈ TBL := tbl_1 100 rfl rfl
theorem m_101 : (Jvm.Cond.selects "java/util/ArrayList" ({ cls := "java/util/ArrayList", name := "get", desc := "(I)Ljava/lang/Object;" } : Jvm.MethodName) ({ cls := "java/util/ArrayList", name := "get", desc := "(I)Ljava/lang/Object;" } : Jvm.MethodName)) ∈ TBL := tbl_1 101 rfl rfl
theorem m_102 : (Jvm.Cond.code ({ cls := "java/util/ArrayList", name := "get", desc := "(I)Ljava/lang/Object;" } : Jvm.MethodName) prog_24_method_20_code (2 : Nat) (Option.some (Jvm.ClassFile.FieldType.object "java/lang/Object"))) ∈ TBL := tbl_1 102 rfl rfl
theorem m_103 : (Jvm.Cond.methodLink "java/util/ArrayList" (118 : Nat) ({ cls := "java/util/Objects", name := "checkIndex", desc := "(II)I" } : Jvm.MethodName)) ∈ TBL := tbl_1 103 rfl rfl
theorem m_104 : (Jvm.Cond.static ({ cls := "java/util/Objects", name := "checkIndex", desc := "(II)I" } : Jvm.MethodName)) ∈ TBL := tbl_1 104 rfl rfl
theorem m_105 : (Jvm.Cond.code ({ cls := "java/util/Objects", name := "checkIndex", desc := "(II)I" } : Jvm.MethodName) prog_29_method_17_code (2 : Nat) (Option.some Jvm.ClassFile.FieldType.int)) ∈ TBL := tbl_1 105 rfl rfl
theorem m_106 : (Jvm.Cond.methodLink "java/util/Objects" (105 : Nat) ({ cls := "jdk/internal/util/Preconditions", name := "checkIndex", desc := "(IILjava/util/function/BiFunction;)I" } : Jvm.MethodName)) ∈ TBL := tbl_1 106 rfl rfl
theorem m_107 : (Jvm.Cond.static ({ cls := "jdk/internal/util/Preconditions", name := "checkIndex", desc := "(IILjava/util/function/BiFunction;)I" } : Jvm.MethodName)) ∈ TBL := tbl_1 107 rfl rfl
theorem m_108 : (Jvm.Cond.code ({ cls := "jdk/internal/util/Preconditions", name := "checkIndex", desc := "(IILjava/util/function/BiFunction;)I" } : Jvm.MethodName) prog_33_method_11_code (3 : Nat) (Option.some Jvm.ClassFile.FieldType.int)) ∈ TBL := tbl_1 108 rfl rfl
theorem m_109 : (Jvm.Cond.methodLink "java/util/ArrayList" (123 : Nat) ({ cls := "java/util/ArrayList", name := "elementData", desc := "(I)Ljava/lang/Object;" } : Jvm.MethodName)) ∈ TBL := tbl_1 109 rfl rfl
theorem m_110 : (Jvm.Cond.instanceMethod ({ cls := "java/util/ArrayList", name := "elementData", desc := "(I)Ljava/lang/Object;" } : Jvm.MethodName)) ∈ TBL := tbl_1 110 rfl rfl
theorem m_111 : (Jvm.Cond.selects "java/util/ArrayList" ({ cls := "java/util/ArrayList", name := "elementData", desc := "(I)Ljava/lang/Object;" } : Jvm.MethodName) ({ cls := "java/util/ArrayList", name := "elementData", desc := "(I)Ljava/lang/Object;" } : Jvm.MethodName)) ∈ TBL := tbl_1 111 rfl rfl
theorem m_112 : (Jvm.Cond.code ({ cls := "java/util/ArrayList", name := "elementData", desc := "(I)Ljava/lang/Object;" } : Jvm.MethodName) prog_24_method_18_code (2 : Nat) (Option.some (Jvm.ClassFile.FieldType.object "java/lang/Object"))) ∈ TBL := tbl_1 112 rfl rfl
theorem m_113 : (Jvm.Cond.classLink "BeltRows" (56 : Nat) "BeltRows$Belt") ∈ TBL := tbl_1 113 rfl rfl
theorem m_114 : (Jvm.Cond.methodLink "BeltRowsLaw" (81 : Nat) ({ cls := "BeltRowsLaw", name := "belt", desc := "(LBeltRows;II[J)I" } : Jvm.MethodName)) ∈ TBL := tbl_1 114 rfl rfl
theorem m_115 : (Jvm.Cond.static ({ cls := "BeltRowsLaw", name := "belt", desc := "(LBeltRows;II[J)I" } : Jvm.MethodName)) ∈ TBL := tbl_1 115 rfl rfl
theorem m_116 : (Jvm.Cond.codeWith ({ cls := "BeltRowsLaw", name := "belt", desc := "(LBeltRows;II[J)I" } : Jvm.MethodName) method_3_code (5 : Nat) (Option.some Jvm.ClassFile.FieldType.int) [((0 : Nat), (10 : Nat), (13 : Nat), (13 : Nat)), ((0 : Nat), (10 : Nat), (17 : Nat), (15 : Nat))]) ∈ TBL := tbl_1 116 rfl rfl
theorem m_117 : (Jvm.Cond.classLink "BeltRowsLaw" (13 : Nat) "java/lang/IllegalArgumentException") ∈ TBL := tbl_1 117 rfl rfl
theorem m_118 : (Jvm.Cond.classLink "BeltRowsLaw" (15 : Nat) "java/lang/UnsupportedOperationException") ∈ TBL := tbl_1 118 rfl rfl
theorem m_119 : (Jvm.Cond.methodLink "BeltRowsLaw" (7 : Nat) ({ cls := "BeltRows", name := "belt", desc := "(II)I" } : Jvm.MethodName)) ∈ TBL := tbl_1 119 rfl rfl
theorem m_120 : (Jvm.Cond.instanceMethod ({ cls := "BeltRows", name := "belt", desc := "(II)I" } : Jvm.MethodName)) ∈ TBL := tbl_1 120 rfl rfl
theorem m_121 : (Jvm.Cond.selects "BeltRows" ({ cls := "BeltRows", name := "belt", desc := "(II)I" } : Jvm.MethodName) ({ cls := "BeltRows", name := "belt", desc := "(II)I" } : Jvm.MethodName)) ∈ TBL := tbl_1 121 rfl rfl
theorem m_122 : (Jvm.Cond.code ({ cls := "BeltRows", name := "belt", desc := "(II)I" } : Jvm.MethodName) prog_1_method_2_code (4 : Nat) (Option.some Jvm.ClassFile.FieldType.int)) ∈ TBL := tbl_1 122 rfl rfl
theorem m_123 : (Jvm.Cond.methodLink "BeltRows" (41 : Nat) ({ cls := "BeltRows", name := "checkRange", desc := "(III)V" } : Jvm.MethodName)) ∈ TBL := tbl_1 123 rfl rfl
theorem m_124 : (Jvm.Cond.static ({ cls := "BeltRows", name := "checkRange", desc := "(III)V" } : Jvm.MethodName)) ∈ TBL := tbl_1 124 rfl rfl
theorem m_125 : (Jvm.Cond.code ({ cls := "BeltRows", name := "checkRange", desc := "(III)V" } : Jvm.MethodName) prog_1_method_20_code (3 : Nat) (Option.none : Option Jvm.ClassFile.FieldType)) ∈ TBL := tbl_1 125 rfl rfl
theorem m_126 : (Jvm.Cond.classLink "BeltRows" (68 : Nat) "java/lang/IllegalArgumentException") ∈ TBL := tbl_1 126 rfl rfl
theorem m_127 : (Jvm.Cond.instantiable "java/lang/IllegalArgumentException" (6 : Nat)) ∈ TBL := tbl_1 127 rfl rfl
theorem m_135 : (Jvm.Cond.selects "java/lang/IllegalArgumentException" ({ cls := "java/lang/Throwable", name := "fillInStackTrace", desc := "(I)Ljava/lang/Throwable;" } : Jvm.MethodName) ({ cls := "java/lang/Throwable", name := "fillInStackTrace", desc := "(I)Ljava/lang/Throwable;" } : Jvm.MethodName)) ∈ TBL := tbl_1 135 rfl rfl
theorem m_136 : (Jvm.Cond.selects "java/lang/IllegalArgumentException" ({ cls := "java/lang/Throwable", name := "fillInStackTrace", desc := "()Ljava/lang/Throwable;" } : Jvm.MethodName) ({ cls := "java/lang/Throwable", name := "fillInStackTrace", desc := "()Ljava/lang/Throwable;" } : Jvm.MethodName)) ∈ TBL := tbl_1 136 rfl rfl
theorem m_137 : (Jvm.Cond.lays "java/lang/IllegalArgumentException" "java/lang/Throwable" "cause" "Ljava/lang/Throwable;") ∈ TBL := tbl_1 137 rfl rfl
theorem m_138 : (Jvm.Cond.lays "java/lang/Throwable" "java/lang/Throwable" "cause" "Ljava/lang/Throwable;") ∈ TBL := tbl_1 138 rfl rfl
theorem m_139 : (Jvm.Cond.lays "java/lang/IllegalArgumentException" "java/lang/Throwable" "stackTrace" "[Ljava/lang/StackTraceElement;") ∈ TBL := tbl_1 139 rfl rfl
theorem m_140 : (Jvm.Cond.lays "java/lang/Throwable" "java/lang/Throwable" "stackTrace" "[Ljava/lang/StackTraceElement;") ∈ TBL := tbl_1 140 rfl rfl
theorem m_141 : (Jvm.Cond.lays "java/lang/IllegalArgumentException" "java/lang/Throwable" "suppressedExceptions" "Ljava/util/List;") ∈ TBL := tbl_1 141 rfl rfl
theorem m_142 : (Jvm.Cond.lays "java/lang/Throwable" "java/lang/Throwable" "suppressedExceptions" "Ljava/util/List;") ∈ TBL := tbl_1 142 rfl rfl
theorem m_143 : (Jvm.Cond.lays "java/lang/IllegalArgumentException" "java/lang/Throwable" "detailMessage" "Ljava/lang/String;") ∈ TBL := tbl_1 143 rfl rfl
theorem m_144 : (Jvm.Cond.lays "java/lang/Throwable" "java/lang/Throwable" "detailMessage" "Ljava/lang/String;") ∈ TBL := tbl_1 144 rfl rfl
theorem m_145 : (Jvm.Cond.lays "java/lang/IllegalArgumentException" "java/lang/Throwable" "backtrace" "Ljava/lang/Object;") ∈ TBL := tbl_1 145 rfl rfl
theorem m_146 : (Jvm.Cond.lays "java/lang/Throwable" "java/lang/Throwable" "backtrace" "Ljava/lang/Object;") ∈ TBL := tbl_1 146 rfl rfl
theorem m_147 : (Jvm.Cond.fieldLink "java/lang/Throwable" (198 : Nat) "java/lang/Throwable" "backtrace" "Ljava/lang/Object;") ∈ TBL := tbl_1 147 rfl rfl
theorem m_149 : (Jvm.Cond.instanceMethod ({ cls := "java/lang/Throwable", name := "<init>", desc := "()V" } : Jvm.MethodName)) ∈ TBL := tbl_1 149 rfl rfl
theorem m_150 : (Jvm.Cond.code ({ cls := "java/lang/Throwable", name := "<init>", desc := "()V" } : Jvm.MethodName) prog_20_method_1_code (1 : Nat) (Option.none : Option Jvm.ClassFile.FieldType)) ∈ TBL := tbl_1 150 rfl rfl
theorem m_151 : (Jvm.Cond.methodLink "java/lang/Throwable" (1 : Nat) ({ cls := "java/lang/Object", name := "<init>", desc := "()V" } : Jvm.MethodName)) ∈ TBL := tbl_1 151 rfl rfl
theorem m_152 : (Jvm.Cond.fieldLink "java/lang/Throwable" (13 : Nat) "java/lang/Throwable" "UNASSIGNED_STACK" "[Ljava/lang/StackTraceElement;") ∈ TBL := tbl_1 152 rfl rfl
theorem m_154 : (Jvm.Cond.fieldLink "java/lang/Throwable" (20 : Nat) "java/lang/Throwable" "SUPPRESSED_SENTINEL" "Ljava/util/List;") ∈ TBL := tbl_1 154 rfl rfl
theorem m_156 : (Jvm.Cond.methodLink "java/lang/Throwable" (27 : Nat) ({ cls := "java/lang/Throwable", name := "fillInStackTrace", desc := "()Ljava/lang/Throwable;" } : Jvm.MethodName)) ∈ TBL := tbl_1 156 rfl rfl
theorem m_157 : (Jvm.Cond.instanceMethod ({ cls := "java/lang/Throwable", name := "fillInStackTrace", desc := "()Ljava/lang/Throwable;" } : Jvm.MethodName)) ∈ TBL := tbl_1 157 rfl rfl
theorem m_159 : (Jvm.Cond.selects "java/lang/ArithmeticException" ({ cls := "java/lang/Throwable", name := "fillInStackTrace", desc := "()Ljava/lang/Throwable;" } : Jvm.MethodName) ({ cls := "java/lang/Throwable", name := "fillInStackTrace", desc := "()Ljava/lang/Throwable;" } : Jvm.MethodName)) ∈ TBL := tbl_1 159 rfl rfl
theorem m_160 : (Jvm.Cond.selects "java/lang/IllegalStateException" ({ cls := "java/lang/Throwable", name := "fillInStackTrace", desc := "()Ljava/lang/Throwable;" } : Jvm.MethodName) ({ cls := "java/lang/Throwable", name := "fillInStackTrace", desc := "()Ljava/lang/Throwable;" } : Jvm.MethodName)) ∈ TBL := tbl_1 160 rfl rfl
theorem m_161 : (Jvm.Cond.selects "java/lang/UnsupportedOperationException" ({ cls := "java/lang/Throwable", name := "fillInStackTrace", desc := "()Ljava/lang/Throwable;" } : Jvm.MethodName) ({ cls := "java/lang/Throwable", name := "fillInStackTrace", desc := "()Ljava/lang/Throwable;" } : Jvm.MethodName)) ∈ TBL := tbl_1 161 rfl rfl
theorem m_162 : (Jvm.Cond.selects "java/util/NoSuchElementException" ({ cls := "java/lang/Throwable", name := "fillInStackTrace", desc := "()Ljava/lang/Throwable;" } : Jvm.MethodName) ({ cls := "java/lang/Throwable", name := "fillInStackTrace", desc := "()Ljava/lang/Throwable;" } : Jvm.MethodName)) ∈ TBL := tbl_1 162 rfl rfl
theorem m_164 : (Jvm.Cond.methodLink "java/lang/Throwable" (202 : Nat) ({ cls := "java/lang/Throwable", name := "fillInStackTrace", desc := "(I)Ljava/lang/Throwable;" } : Jvm.MethodName)) ∈ TBL := tbl_1 164 rfl rfl
theorem m_166 : (Jvm.Cond.instanceMethod ({ cls := "java/lang/Throwable", name := "fillInStackTrace", desc := "(I)Ljava/lang/Throwable;" } : Jvm.MethodName)) ∈ TBL := tbl_1 166 rfl rfl
theorem m_167 : (Jvm.Cond.instantiable "java/lang/Throwable" (6 : Nat)) ∈ TBL := tbl_1 167 rfl rfl
theorem m_170 : (Jvm.Cond.methodLink "BeltRows" (72 : Nat) ({ cls := "java/lang/IllegalArgumentException", name := "<init>", desc := "(Ljava/lang/String;)V" } : Jvm.MethodName)) ∈ TBL := tbl_1 170 rfl rfl
theorem m_171 : (Jvm.Cond.instanceMethod ({ cls := "java/lang/IllegalArgumentException", name := "<init>", desc := "(Ljava/lang/String;)V" } : Jvm.MethodName)) ∈ TBL := tbl_1 171 rfl rfl
theorem m_172 : (Jvm.Cond.code ({ cls := "java/lang/IllegalArgumentException", name := "<init>", desc := "(Ljava/lang/String;)V" } : Jvm.MethodName) prog_13_method_2_code (2 : Nat) (Option.none : Option Jvm.ClassFile.FieldType)) ∈ TBL := tbl_1 172 rfl rfl
theorem m_173 : (Jvm.Cond.methodLink "java/lang/IllegalArgumentException" (7 : Nat) ({ cls := "java/lang/RuntimeException", name := "<init>", desc := "(Ljava/lang/String;)V" } : Jvm.MethodName)) ∈ TBL := tbl_1 173 rfl rfl
theorem m_174 : (Jvm.Cond.instanceMethod ({ cls := "java/lang/RuntimeException", name := "<init>", desc := "(Ljava/lang/String;)V" } : Jvm.MethodName)) ∈ TBL := tbl_1 174 rfl rfl
theorem m_175 : (Jvm.Cond.code ({ cls := "java/lang/RuntimeException", name := "<init>", desc := "(Ljava/lang/String;)V" } : Jvm.MethodName) prog_17_method_2_code (2 : Nat) (Option.none : Option Jvm.ClassFile.FieldType)) ∈ TBL := tbl_1 175 rfl rfl
theorem m_176 : (Jvm.Cond.methodLink "java/lang/RuntimeException" (7 : Nat) ({ cls := "java/lang/Exception", name := "<init>", desc := "(Ljava/lang/String;)V" } : Jvm.MethodName)) ∈ TBL := tbl_1 176 rfl rfl
theorem m_177 : (Jvm.Cond.instanceMethod ({ cls := "java/lang/Exception", name := "<init>", desc := "(Ljava/lang/String;)V" } : Jvm.MethodName)) ∈ TBL := tbl_1 177 rfl rfl
theorem m_178 : (Jvm.Cond.code ({ cls := "java/lang/Exception", name := "<init>", desc := "(Ljava/lang/String;)V" } : Jvm.MethodName) prog_12_method_2_code (2 : Nat) (Option.none : Option Jvm.ClassFile.FieldType)) ∈ TBL := tbl_1 178 rfl rfl
theorem m_179 : (Jvm.Cond.methodLink "java/lang/Exception" (7 : Nat) ({ cls := "java/lang/Throwable", name := "<init>", desc := "(Ljava/lang/String;)V" } : Jvm.MethodName)) ∈ TBL := tbl_1 179 rfl rfl
theorem m_180 : (Jvm.Cond.instanceMethod ({ cls := "java/lang/Throwable", name := "<init>", desc := "(Ljava/lang/String;)V" } : Jvm.MethodName)) ∈ TBL := tbl_1 180 rfl rfl
theorem m_181 : (Jvm.Cond.code ({ cls := "java/lang/Throwable", name := "<init>", desc := "(Ljava/lang/String;)V" } : Jvm.MethodName) prog_20_method_2_code (2 : Nat) (Option.none : Option Jvm.ClassFile.FieldType)) ∈ TBL := tbl_1 181 rfl rfl
theorem m_182 : (Jvm.Cond.fieldLink "java/lang/Throwable" (198 : Nat) "java/lang/Throwable" "backtrace" "Ljava/lang/Object;") ∈ TBL := tbl_1 182 rfl rfl
theorem m_183 : (Jvm.Cond.fieldLink "java/lang/Throwable" (31 : Nat) "java/lang/Throwable" "detailMessage" "Ljava/lang/String;") ∈ TBL := tbl_1 183 rfl rfl
theorem m_184 : (Jvm.Cond.fieldLink "java/lang/Throwable" (7 : Nat) "java/lang/Throwable" "cause" "Ljava/lang/Throwable;") ∈ TBL := tbl_1 184 rfl rfl
theorem m_185 : (Jvm.Cond.fieldLink "java/lang/Throwable" (17 : Nat) "java/lang/Throwable" "stackTrace" "[Ljava/lang/StackTraceElement;") ∈ TBL := tbl_1 185 rfl rfl
theorem m_186 : (Jvm.Cond.fieldLink "java/lang/Throwable" (24 : Nat) "java/lang/Throwable" "suppressedExceptions" "Ljava/util/List;") ∈ TBL := tbl_1 186 rfl rfl
theorem m_191 : (Jvm.Cond.lays "java/lang/IllegalArgumentException" "java/lang/Throwable" "depth" "I") ∈ TBL := tbl_1 191 rfl rfl
theorem m_195 : (Jvm.Cond.arrayClass Jvm.ClassFile.FieldType.byte) ∈ TBL := tbl_1 195 rfl rfl
theorem m_196 : (Jvm.Cond.classLink "BeltRows" (49 : Nat) "java/lang/UnsupportedOperationException") ∈ TBL := tbl_1 196 rfl rfl
theorem m_197 : (Jvm.Cond.instantiable "java/lang/UnsupportedOperationException" (6 : Nat)) ∈ TBL := tbl_1 197 rfl rfl
theorem m_199 : (Jvm.Cond.selects "java/lang/UnsupportedOperationException" ({ cls := "java/lang/Throwable", name := "fillInStackTrace", desc := "(I)Ljava/lang/Throwable;" } : Jvm.MethodName) ({ cls := "java/lang/Throwable", name := "fillInStackTrace", desc := "(I)Ljava/lang/Throwable;" } : Jvm.MethodName)) ∈ TBL := tbl_1 199 rfl rfl
theorem m_200 : (Jvm.Cond.lays "java/lang/UnsupportedOperationException" "java/lang/Throwable" "cause" "Ljava/lang/Throwable;") ∈ TBL := tbl_1 200 rfl rfl
theorem m_201 : (Jvm.Cond.lays "java/lang/UnsupportedOperationException" "java/lang/Throwable" "stackTrace" "[Ljava/lang/StackTraceElement;") ∈ TBL := tbl_1 201 rfl rfl
theorem m_202 : (Jvm.Cond.lays "java/lang/UnsupportedOperationException" "java/lang/Throwable" "suppressedExceptions" "Ljava/util/List;") ∈ TBL := tbl_1 202 rfl rfl
theorem m_203 : (Jvm.Cond.lays "java/lang/UnsupportedOperationException" "java/lang/Throwable" "detailMessage" "Ljava/lang/String;") ∈ TBL := tbl_1 203 rfl rfl
theorem m_204 : (Jvm.Cond.lays "java/lang/UnsupportedOperationException" "java/lang/Throwable" "backtrace" "Ljava/lang/Object;") ∈ TBL := tbl_1 204 rfl rfl
theorem m_206 : (Jvm.Cond.methodLink "BeltRows" (53 : Nat) ({ cls := "java/lang/UnsupportedOperationException", name := "<init>", desc := "(Ljava/lang/String;)V" } : Jvm.MethodName)) ∈ TBL := tbl_1 206 rfl rfl
theorem m_207 : (Jvm.Cond.instanceMethod ({ cls := "java/lang/UnsupportedOperationException", name := "<init>", desc := "(Ljava/lang/String;)V" } : Jvm.MethodName)) ∈ TBL := tbl_1 207 rfl rfl
theorem m_208 : (Jvm.Cond.code ({ cls := "java/lang/UnsupportedOperationException", name := "<init>", desc := "(Ljava/lang/String;)V" } : Jvm.MethodName) prog_21_method_2_code (2 : Nat) (Option.none : Option Jvm.ClassFile.FieldType)) ∈ TBL := tbl_1 208 rfl rfl
theorem m_209 : (Jvm.Cond.methodLink "java/lang/UnsupportedOperationException" (7 : Nat) ({ cls := "java/lang/RuntimeException", name := "<init>", desc := "(Ljava/lang/String;)V" } : Jvm.MethodName)) ∈ TBL := tbl_1 209 rfl rfl
theorem m_210 : (Jvm.Cond.lays "java/lang/UnsupportedOperationException" "java/lang/Throwable" "depth" "I") ∈ TBL := tbl_1 210 rfl rfl
theorem m_212 : (Jvm.Cond.instantiable "BeltRows$Belt" (9 : Nat)) ∈ TBL := tbl_1 212 rfl rfl
theorem m_213 : (Jvm.Cond.methodLink "BeltRows" (58 : Nat) ({ cls := "BeltRows$Belt", name := "<init>", desc := "(III)V" } : Jvm.MethodName)) ∈ TBL := tbl_1 213 rfl rfl
theorem m_214 : (Jvm.Cond.instanceMethod ({ cls := "BeltRows$Belt", name := "<init>", desc := "(III)V" } : Jvm.MethodName)) ∈ TBL := tbl_1 214 rfl rfl
theorem m_215 : (Jvm.Cond.code ({ cls := "BeltRows$Belt", name := "<init>", desc := "(III)V" } : Jvm.MethodName) prog_2_method_1_code (4 : Nat) (Option.none : Option Jvm.ClassFile.FieldType)) ∈ TBL := tbl_1 215 rfl rfl
theorem m_216 : (Jvm.Cond.methodLink "BeltRows$Belt" (1 : Nat) ({ cls := "java/lang/Object", name := "<init>", desc := "()V" } : Jvm.MethodName)) ∈ TBL := tbl_1 216 rfl rfl
theorem m_217 : (Jvm.Cond.classLink "BeltRows$Belt" (33 : Nat) "BeltRows$Way") ∈ TBL := tbl_1 217 rfl rfl
theorem m_218 : (Jvm.Cond.instantiable "BeltRows$Way" (3 : Nat)) ∈ TBL := tbl_1 218 rfl rfl
theorem m_219 : (Jvm.Cond.methodLink "BeltRows$Belt" (35 : Nat) ({ cls := "BeltRows$Way", name := "<init>", desc := "()V" } : Jvm.MethodName)) ∈ TBL := tbl_1 219 rfl rfl
theorem m_220 : (Jvm.Cond.instanceMethod ({ cls := "BeltRows$Way", name := "<init>", desc := "()V" } : Jvm.MethodName)) ∈ TBL := tbl_1 220 rfl rfl
theorem m_221 : (Jvm.Cond.code ({ cls := "BeltRows$Way", name := "<init>", desc := "()V" } : Jvm.MethodName) prog_6_method_1_code (1 : Nat) (Option.none : Option Jvm.ClassFile.FieldType)) ∈ TBL := tbl_1 221 rfl rfl
theorem m_222 : (Jvm.Cond.methodLink "BeltRows$Way" (3 : Nat) ({ cls := "java/lang/Object", name := "<init>", desc := "()V" } : Jvm.MethodName)) ∈ TBL := tbl_1 222 rfl rfl
theorem m_223 : (Jvm.Cond.fieldLink "BeltRows$Way" (9 : Nat) "BeltRows$Way" "next" "LBeltRows$Belt;") ∈ TBL := tbl_1 223 rfl rfl
theorem m_224 : (Jvm.Cond.fieldLink "BeltRows$Belt" (52 : Nat) "BeltRows$Way" "next" "LBeltRows$Belt;") ∈ TBL := tbl_1 224 rfl rfl
theorem m_225 : (Jvm.Cond.fieldLink "BeltRows" (233 : Nat) "BeltRows$Way" "next" "LBeltRows$Belt;") ∈ TBL := tbl_1 225 rfl rfl
theorem m_226 : (Jvm.Cond.fieldLink "BeltRows$Way" (15 : Nat) "BeltRows$Way" "share" "I") ∈ TBL := tbl_1 226 rfl rfl
theorem m_227 : (Jvm.Cond.fieldLink "BeltRows$Way" (19 : Nat) "BeltRows$Way" "went" "I") ∈ TBL := tbl_1 227 rfl rfl
theorem m_228 : (Jvm.Cond.fieldLink "BeltRows" (210 : Nat) "BeltRows$Way" "went" "I") ∈ TBL := tbl_1 228 rfl rfl
theorem m_229 : (Jvm.Cond.lays "BeltRows$Way" "BeltRows$Way" "next" "LBeltRows$Belt;") ∈ TBL := tbl_1 229 rfl rfl
theorem m_231 : (Jvm.Cond.lays "BeltRows$Way" "BeltRows$Way" "share" "I") ∈ TBL := tbl_1 231 rfl rfl
theorem m_233 : (Jvm.Cond.lays "BeltRows$Way" "BeltRows$Way" "went" "I") ∈ TBL := tbl_1 233 rfl rfl
theorem m_236 : (Jvm.Cond.fieldLink "BeltRows$Belt" (7 : Nat) "BeltRows$Belt" "number" "I") ∈ TBL := tbl_1 236 rfl rfl
theorem m_237 : (Jvm.Cond.fieldLink "BeltRows$Way" (22 : Nat) "BeltRows$Belt" "number" "I") ∈ TBL := tbl_1 237 rfl rfl
theorem m_238 : (Jvm.Cond.fieldLink "BeltRows" (197 : Nat) "BeltRows$Belt" "number" "I") ∈ TBL := tbl_1 238 rfl rfl
theorem m_239 : (Jvm.Cond.fieldLink "BeltRows$Belt" (13 : Nat) "BeltRows$Belt" "length" "I") ∈ TBL := tbl_1 239 rfl rfl
theorem m_240 : (Jvm.Cond.fieldLink "BeltRows$Item" (57 : Nat) "BeltRows$Belt" "length" "I") ∈ TBL := tbl_2 0 rfl rfl
theorem m_241 : (Jvm.Cond.fieldLink "BeltRows" (94 : Nat) "BeltRows$Belt" "length" "I") ∈ TBL := tbl_2 1 rfl rfl
theorem m_242 : (Jvm.Cond.fieldLink "BeltRows$Belt" (16 : Nat) "BeltRows$Belt" "speed" "I") ∈ TBL := tbl_2 2 rfl rfl
theorem m_243 : (Jvm.Cond.fieldLink "BeltRows" (87 : Nat) "BeltRows$Belt" "speed" "I") ∈ TBL := tbl_2 3 rfl rfl
theorem m_244 : (Jvm.Cond.fieldLink "BeltRows$Item" (68 : Nat) "BeltRows$Belt" "speed" "I") ∈ TBL := tbl_2 4 rfl rfl
theorem m_245 : (Jvm.Cond.fieldLink "BeltRows$Belt" (19 : Nat) "BeltRows$Belt" "runs" "Z") ∈ TBL := tbl_2 5 rfl rfl
theorem m_246 : (Jvm.Cond.fieldLink "BeltRows" (90 : Nat) "BeltRows$Belt" "runs" "Z") ∈ TBL := tbl_2 6 rfl rfl
theorem m_247 : (Jvm.Cond.fieldLink "BeltRows$Belt" (23 : Nat) "BeltRows$Belt" "front" "LBeltRows$Item;") ∈ TBL := tbl_2 7 rfl rfl
theorem m_248 : (Jvm.Cond.fieldLink "BeltRows" (185 : Nat) "BeltRows$Belt" "front" "LBeltRows$Item;") ∈ TBL := tbl_2 8 rfl rfl
theorem m_249 : (Jvm.Cond.fieldLink "BeltRows$Belt" (27 : Nat) "BeltRows$Belt" "last" "LBeltRows$Item;") ∈ TBL := tbl_2 9 rfl rfl
theorem m_250 : (Jvm.Cond.fieldLink "BeltRows" (236 : Nat) "BeltRows$Belt" "last" "LBeltRows$Item;") ∈ TBL := tbl_2 10 rfl rfl
theorem m_251 : (Jvm.Cond.fieldLink "BeltRows$Belt" (30 : Nat) "BeltRows$Belt" "size" "I") ∈ TBL := tbl_2 11 rfl rfl
theorem m_252 : (Jvm.Cond.fieldLink "BeltRows" (183 : Nat) "BeltRows$Belt" "size" "I") ∈ TBL := tbl_2 12 rfl rfl
theorem m_253 : (Jvm.Cond.fieldLink "BeltRows$Belt" (36 : Nat) "BeltRows$Belt" "wayZero" "LBeltRows$Way;") ∈ TBL := tbl_2 13 rfl rfl
theorem m_254 : (Jvm.Cond.fieldLink "BeltRows$Belt" (40 : Nat) "BeltRows$Belt" "wayOne" "LBeltRows$Way;") ∈ TBL := tbl_2 14 rfl rfl
theorem m_255 : (Jvm.Cond.laysFinal "BeltRows$Belt" "BeltRows$Belt" "number" "I") ∈ TBL := tbl_2 15 rfl rfl
theorem m_257 : (Jvm.Cond.laysFinal "BeltRows$Belt" "BeltRows$Belt" "length" "I") ∈ TBL := tbl_2 17 rfl rfl
theorem m_259 : (Jvm.Cond.lays "BeltRows$Belt" "BeltRows$Belt" "speed" "I") ∈ TBL := tbl_2 19 rfl rfl
theorem m_261 : (Jvm.Cond.lays "BeltRows$Belt" "BeltRows$Belt" "runs" "Z") ∈ TBL := tbl_2 21 rfl rfl
theorem m_263 : (Jvm.Cond.lays "BeltRows$Belt" "BeltRows$Belt" "front" "LBeltRows$Item;") ∈ TBL := tbl_2 23 rfl rfl
theorem m_265 : (Jvm.Cond.lays "BeltRows$Belt" "BeltRows$Belt" "last" "LBeltRows$Item;") ∈ TBL := tbl_2 25 rfl rfl
theorem m_267 : (Jvm.Cond.lays "BeltRows$Belt" "BeltRows$Belt" "size" "I") ∈ TBL := tbl_2 27 rfl rfl
theorem m_269 : (Jvm.Cond.laysFinal "BeltRows$Belt" "BeltRows$Belt" "wayZero" "LBeltRows$Way;") ∈ TBL := tbl_2 29 rfl rfl
theorem m_271 : (Jvm.Cond.laysFinal "BeltRows$Belt" "BeltRows$Belt" "wayOne" "LBeltRows$Way;") ∈ TBL := tbl_2 31 rfl rfl
theorem m_274 : (Jvm.Cond.methodLink "BeltRows" (60 : Nat) ({ cls := "java/util/ArrayList", name := "add", desc := "(Ljava/lang/Object;)Z" } : Jvm.MethodName)) ∈ TBL := tbl_2 34 rfl rfl
theorem m_275 : (Jvm.Cond.instanceMethod ({ cls := "java/util/ArrayList", name := "add", desc := "(Ljava/lang/Object;)Z" } : Jvm.MethodName)) ∈ TBL := tbl_2 35 rfl rfl
theorem m_276 : (Jvm.Cond.selects "java/util/ArrayList" ({ cls := "java/util/ArrayList", name := "add", desc := "(Ljava/lang/Object;)Z" } : Jvm.MethodName) ({ cls := "java/util/ArrayList", name := "add", desc := "(Ljava/lang/Object;)Z" } : Jvm.MethodName)) ∈ TBL := tbl_2 36 rfl rfl
theorem m_277 : (Jvm.Cond.code ({ cls := "java/util/ArrayList", name := "add", desc := "(Ljava/lang/Object;)Z" } : Jvm.MethodName) prog_24_method_25_code (2 : Nat) (Option.some Jvm.ClassFile.FieldType.boolean)) ∈ TBL := tbl_2 37 rfl rfl
theorem m_278 : (Jvm.Cond.methodLink "java/util/ArrayList" (131 : Nat) ({ cls := "java/util/ArrayList", name := "add", desc := "(Ljava/lang/Object;[Ljava/lang/Object;I)V" } : Jvm.MethodName)) ∈ TBL := tbl_2 38 rfl rfl
theorem m_280 : (Jvm.Cond.instanceMethod ({ cls := "java/util/ArrayList", name := "add", desc := "(Ljava/lang/Object;[Ljava/lang/Object;I)V" } : Jvm.MethodName)) ∈ TBL := tbl_2 40 rfl rfl
theorem m_281 : (Jvm.Cond.code ({ cls := "java/util/ArrayList", name := "add", desc := "(Ljava/lang/Object;[Ljava/lang/Object;I)V" } : Jvm.MethodName) prog_24_method_24_code (4 : Nat) (Option.none : Option Jvm.ClassFile.FieldType)) ∈ TBL := tbl_2 41 rfl rfl
theorem m_282 : (Jvm.Cond.methodLink "java/util/ArrayList" (129 : Nat) ({ cls := "java/util/ArrayList", name := "grow", desc := "()[Ljava/lang/Object;" } : Jvm.MethodName)) ∈ TBL := tbl_2 42 rfl rfl
theorem m_284 : (Jvm.Cond.instanceMethod ({ cls := "java/util/ArrayList", name := "grow", desc := "()[Ljava/lang/Object;" } : Jvm.MethodName)) ∈ TBL := tbl_2 44 rfl rfl
theorem m_285 : (Jvm.Cond.code ({ cls := "java/util/ArrayList", name := "grow", desc := "()[Ljava/lang/Object;" } : Jvm.MethodName) prog_24_method_7_code (1 : Nat) (Option.some (Jvm.ClassFile.FieldType.array (Jvm.ClassFile.FieldType.object "java/lang/Object")))) ∈ TBL := tbl_2 45 rfl rfl
theorem m_286 : (Jvm.Cond.methodLink "java/util/ArrayList" (69 : Nat) ({ cls := "java/util/ArrayList", name := "grow", desc := "(I)[Ljava/lang/Object;" } : Jvm.MethodName)) ∈ TBL := tbl_2 46 rfl rfl
theorem m_288 : (Jvm.Cond.instanceMethod ({ cls := "java/util/ArrayList", name := "grow", desc := "(I)[Ljava/lang/Object;" } : Jvm.MethodName)) ∈ TBL := tbl_2 48 rfl rfl
theorem m_289 : (Jvm.Cond.code ({ cls := "java/util/ArrayList", name := "grow", desc := "(I)[Ljava/lang/Object;" } : Jvm.MethodName) prog_24_method_6_code (4 : Nat) (Option.some (Jvm.ClassFile.FieldType.array (Jvm.ClassFile.FieldType.object "java/lang/Object")))) ∈ TBL := tbl_2 49 rfl rfl
theorem m_290 : (Jvm.Cond.methodLink "java/util/ArrayList" (73 : Nat) ({ cls := "jdk/internal/util/ArraysSupport", name := "newLength", desc := "(III)I" } : Jvm.MethodName)) ∈ TBL := tbl_2 50 rfl rfl
theorem m_291 : (Jvm.Cond.static ({ cls := "jdk/internal/util/ArraysSupport", name := "newLength", desc := "(III)I" } : Jvm.MethodName)) ∈ TBL := tbl_2 51 rfl rfl
theorem m_292 : (Jvm.Cond.code ({ cls := "jdk/internal/util/ArraysSupport", name := "newLength", desc := "(III)I" } : Jvm.MethodName) prog_32_method_27_code (4 : Nat) (Option.some Jvm.ClassFile.FieldType.int)) ∈ TBL := tbl_2 52 rfl rfl
theorem m_293 : (Jvm.Cond.methodLink "jdk/internal/util/ArraysSupport" (194 : Nat) ({ cls := "java/lang/Math", name := "max", desc := "(II)I" } : Jvm.MethodName)) ∈ TBL := tbl_2 53 rfl rfl
theorem m_294 : (Jvm.Cond.static ({ cls := "java/lang/Math", name := "max", desc := "(II)I" } : Jvm.MethodName)) ∈ TBL := tbl_2 54 rfl rfl
theorem m_295 : (Jvm.Cond.code ({ cls := "java/lang/Math", name := "max", desc := "(II)I" } : Jvm.MethodName) prog_16_method_65_code (2 : Nat) (Option.some Jvm.ClassFile.FieldType.int)) ∈ TBL := tbl_2 55 rfl rfl
theorem m_296 : (Jvm.Cond.constant "jdk/internal/util/ArraysSupport" (200 : Nat) (2147483639 : Int32)) ∈ TBL := tbl_2 56 rfl rfl
theorem m_297 : (Jvm.Cond.methodLink "jdk/internal/util/ArraysSupport" (201 : Nat) ({ cls := "jdk/internal/util/ArraysSupport", name := "hugeLength", desc := "(II)I" } : Jvm.MethodName)) ∈ TBL := tbl_2 57 rfl rfl
theorem m_298 : (Jvm.Cond.static ({ cls := "jdk/internal/util/ArraysSupport", name := "hugeLength", desc := "(II)I" } : Jvm.MethodName)) ∈ TBL := tbl_2 58 rfl rfl
theorem m_299 : (Jvm.Cond.code ({ cls := "jdk/internal/util/ArraysSupport", name := "hugeLength", desc := "(II)I" } : Jvm.MethodName) prog_32_method_28_code (3 : Nat) (Option.some Jvm.ClassFile.FieldType.int)) ∈ TBL := tbl_2 59 rfl rfl
theorem m_300 : (Jvm.Cond.methodLink "java/util/ArrayList" (66 : Nat) ({ cls := "java/util/Arrays", name := "copyOf", desc := "([Ljava/lang/Object;I)[Ljava/lang/Object;" } : Jvm.MethodName)) ∈ TBL := tbl_2 60 rfl rfl
theorem m_301 : (Jvm.Cond.static ({ cls := "java/util/Arrays", name := "copyOf", desc := "([Ljava/lang/Object;I)[Ljava/lang/Object;" } : Jvm.MethodName)) ∈ TBL := tbl_2 61 rfl rfl
theorem m_302 : (Jvm.Cond.code ({ cls := "java/util/Arrays", name := "copyOf", desc := "([Ljava/lang/Object;I)[Ljava/lang/Object;" } : Jvm.MethodName) prog_25_method_119_code (2 : Nat) (Option.some (Jvm.ClassFile.FieldType.array (Jvm.ClassFile.FieldType.object "java/lang/Object")))) ∈ TBL := tbl_2 62 rfl rfl
theorem m_303 : (Jvm.Cond.methodLink "java/util/Arrays" (86 : Nat) ({ cls := "java/lang/Object", name := "getClass", desc := "()Ljava/lang/Class;" } : Jvm.MethodName)) ∈ TBL := tbl_2 63 rfl rfl
theorem m_304 : (Jvm.Cond.instanceMethod ({ cls := "java/lang/Object", name := "getClass", desc := "()Ljava/lang/Class;" } : Jvm.MethodName)) ∈ TBL := tbl_2 64 rfl rfl
theorem m_306 : (Jvm.Cond.selects "BeltRows" ({ cls := "java/lang/Object", name := "getClass", desc := "()Ljava/lang/Class;" } : Jvm.MethodName) ({ cls := "java/lang/Object", name := "getClass", desc := "()Ljava/lang/Class;" } : Jvm.MethodName)) ∈ TBL := tbl_2 66 rfl rfl
theorem m_307 : (Jvm.Cond.selects "BeltRows$Belt" ({ cls := "java/lang/Object", name := "getClass", desc := "()Ljava/lang/Class;" } : Jvm.MethodName) ({ cls := "java/lang/Object", name := "getClass", desc := "()Ljava/lang/Class;" } : Jvm.MethodName)) ∈ TBL := tbl_2 67 rfl rfl
theorem m_308 : (Jvm.Cond.selects "BeltRows$Edge" ({ cls := "java/lang/Object", name := "getClass", desc := "()Ljava/lang/Class;" } : Jvm.MethodName) ({ cls := "java/lang/Object", name := "getClass", desc := "()Ljava/lang/Class;" } : Jvm.MethodName)) ∈ TBL := tbl_2 68 rfl rfl
theorem m_309 : (Jvm.Cond.selects "BeltRows$Item" ({ cls := "java/lang/Object", name := "getClass", desc := "()Ljava/lang/Class;" } : Jvm.MethodName) ({ cls := "java/lang/Object", name := "getClass", desc := "()Ljava/lang/Class;" } : Jvm.MethodName)) ∈ TBL := tbl_2 69 rfl rfl
theorem m_310 : (Jvm.Cond.selects "BeltRows$Scanner" ({ cls := "java/lang/Object", name := "getClass", desc := "()Ljava/lang/Class;" } : Jvm.MethodName) ({ cls := "java/lang/Object", name := "getClass", desc := "()Ljava/lang/Class;" } : Jvm.MethodName)) ∈ TBL := tbl_2 70 rfl rfl
theorem m_311 : (Jvm.Cond.selects "BeltRows$Way" ({ cls := "java/lang/Object", name := "getClass", desc := "()Ljava/lang/Class;" } : Jvm.MethodName) ({ cls := "java/lang/Object", name := "getClass", desc := "()Ljava/lang/Class;" } : Jvm.MethodName)) ∈ TBL := tbl_2 71 rfl rfl
theorem m_312 : (Jvm.Cond.selects "BeltRowsModel" ({ cls := "java/lang/Object", name := "getClass", desc := "()Ljava/lang/Class;" } : Jvm.MethodName) ({ cls := "java/lang/Object", name := "getClass", desc := "()Ljava/lang/Class;" } : Jvm.MethodName)) ∈ TBL := tbl_2 72 rfl rfl
theorem m_313 : (Jvm.Cond.selects "java/lang/ArithmeticException" ({ cls := "java/lang/Object", name := "getClass", desc := "()Ljava/lang/Class;" } : Jvm.MethodName) ({ cls := "java/lang/Object", name := "getClass", desc := "()Ljava/lang/Class;" } : Jvm.MethodName)) ∈ TBL := tbl_2 73 rfl rfl
theorem m_314 : (Jvm.Cond.selects "java/lang/IllegalArgumentException" ({ cls := "java/lang/Object", name := "getClass", desc := "()Ljava/lang/Class;" } : Jvm.MethodName) ({ cls := "java/lang/Object", name := "getClass", desc := "()Ljava/lang/Class;" } : Jvm.MethodName)) ∈ TBL := tbl_2 74 rfl rfl
theorem m_315 : (Jvm.Cond.selects "java/lang/IllegalStateException" ({ cls := "java/lang/Object", name := "getClass", desc := "()Ljava/lang/Class;" } : Jvm.MethodName) ({ cls := "java/lang/Object", name := "getClass", desc := "()Ljava/lang/Class;" } : Jvm.MethodName)) ∈ TBL := tbl_2 75 rfl rfl
theorem m_316 : (Jvm.Cond.selects "java/lang/UnsupportedOperationException" ({ cls := "java/lang/Object", name := "getClass", desc := "()Ljava/lang/Class;" } : Jvm.MethodName) ({ cls := "java/lang/Object", name := "getClass", desc := "()Ljava/lang/Class;" } : Jvm.MethodName)) ∈ TBL := tbl_2 76 rfl rfl
theorem m_317 : (Jvm.Cond.selects "java/util/ArrayList" ({ cls := "java/lang/Object", name := "getClass", desc := "()Ljava/lang/Class;" } : Jvm.MethodName) ({ cls := "java/lang/Object", name := "getClass", desc := "()Ljava/lang/Class;" } : Jvm.MethodName)) ∈ TBL := tbl_2 77 rfl rfl
theorem m_318 : (Jvm.Cond.selects "java/util/NoSuchElementException" ({ cls := "java/lang/Object", name := "getClass", desc := "()Ljava/lang/Class;" } : Jvm.MethodName) ({ cls := "java/lang/Object", name := "getClass", desc := "()Ljava/lang/Class;" } : Jvm.MethodName)) ∈ TBL := tbl_2 78 rfl rfl
theorem m_320 : (Jvm.Cond.methodLink "java/util/Arrays" (300 : Nat) ({ cls := "java/util/Arrays", name := "copyOf", desc := "([Ljava/lang/Object;ILjava/lang/Class;)[Ljava/lang/Object;" } : Jvm.MethodName)) ∈ TBL := tbl_2 80 rfl rfl
theorem m_321 : (Jvm.Cond.static ({ cls := "java/util/Arrays", name := "copyOf", desc := "([Ljava/lang/Object;ILjava/lang/Class;)[Ljava/lang/Object;" } : Jvm.MethodName)) ∈ TBL := tbl_2 81 rfl rfl
theorem m_322 : (Jvm.Cond.code ({ cls := "java/util/Arrays", name := "copyOf", desc := "([Ljava/lang/Object;ILjava/lang/Class;)[Ljava/lang/Object;" } : Jvm.MethodName) prog_25_method_120_code (4 : Nat) (Option.some (Jvm.ClassFile.FieldType.array (Jvm.ClassFile.FieldType.object "java/lang/Object")))) ∈ TBL := tbl_2 82 rfl rfl
theorem m_323 : (Jvm.Cond.classLink "java/util/Arrays" (110 : Nat) "[Ljava/lang/Object;") ∈ TBL := tbl_2 83 rfl rfl
theorem m_325 : (Jvm.Cond.classLink "java/util/Arrays" (2 : Nat) "java/lang/Object") ∈ TBL := tbl_2 85 rfl rfl
theorem m_326 : (Jvm.Cond.methodLink "java/util/Arrays" (304 : Nat) ({ cls := "java/lang/Math", name := "min", desc := "(II)I" } : Jvm.MethodName)) ∈ TBL := tbl_2 86 rfl rfl
theorem m_327 : (Jvm.Cond.static ({ cls := "java/lang/Math", name := "min", desc := "(II)I" } : Jvm.MethodName)) ∈ TBL := tbl_2 87 rfl rfl
theorem m_328 : (Jvm.Cond.code ({ cls := "java/lang/Math", name := "min", desc := "(II)I" } : Jvm.MethodName) prog_16_method_69_code (2 : Nat) (Option.some Jvm.ClassFile.FieldType.int)) ∈ TBL := tbl_2 88 rfl rfl
theorem m_329 : (Jvm.Cond.methodLink "java/util/Arrays" (150 : Nat) ({ cls := "java/lang/System", name := "arraycopy", desc := "(Ljava/lang/Object;ILjava/lang/Object;II)V" } : Jvm.MethodName)) ∈ TBL := tbl_2 89 rfl rfl
theorem m_330 : (Jvm.Cond.static ({ cls := "java/lang/System", name := "arraycopy", desc := "(Ljava/lang/Object;ILjava/lang/Object;II)V" } : Jvm.MethodName)) ∈ TBL := tbl_2 90 rfl rfl
theorem m_332 : (Jvm.Cond.methodLink "java/util/ArrayList" (79 : Nat) ({ cls := "java/lang/Math", name := "max", desc := "(II)I" } : Jvm.MethodName)) ∈ TBL := tbl_2 92 rfl rfl
theorem m_333 : (Jvm.Cond.classLink "java/util/ArrayList" (7 : Nat) "java/lang/Object") ∈ TBL := tbl_2 93 rfl rfl
theorem m_334 : (Jvm.Cond.methodLink "BeltRowsLaw" (90 : Nat) ({ cls := "BeltRowsLaw", name := "join", desc := "(LBeltRows;IIII[J)I" } : Jvm.MethodName)) ∈ TBL := tbl_2 94 rfl rfl
theorem m_335 : (Jvm.Cond.static ({ cls := "BeltRowsLaw", name := "join", desc := "(LBeltRows;IIII[J)I" } : Jvm.MethodName)) ∈ TBL := tbl_2 95 rfl rfl
theorem m_336 : (Jvm.Cond.codeWith ({ cls := "BeltRowsLaw", name := "join", desc := "(LBeltRows;IIII[J)I" } : Jvm.MethodName) method_4_code (7 : Nat) (Option.some Jvm.ClassFile.FieldType.int) [((0 : Nat), (14 : Nat), (17 : Nat), (21 : Nat)), ((0 : Nat), (14 : Nat), (21 : Nat), (13 : Nat))]) ∈ TBL := tbl_2 96 rfl rfl
theorem m_337 : (Jvm.Cond.classLink "BeltRowsLaw" (21 : Nat) "java/util/NoSuchElementException") ∈ TBL := tbl_2 97 rfl rfl
theorem m_338 : (Jvm.Cond.methodLink "BeltRowsLaw" (17 : Nat) ({ cls := "BeltRows", name := "join", desc := "(IIII)I" } : Jvm.MethodName)) ∈ TBL := tbl_2 98 rfl rfl
theorem m_339 : (Jvm.Cond.instanceMethod ({ cls := "BeltRows", name := "join", desc := "(IIII)I" } : Jvm.MethodName)) ∈ TBL := tbl_2 99 rfl rfl
theorem m_340 : (Jvm.Cond.selects "BeltRows" ({ cls := "BeltRows", name := "join", desc := "(IIII)I" } : Jvm.MethodName) ({ cls := "BeltRows", name := "join", desc := "(IIII)I" } : Jvm.MethodName)) ∈ TBL := tbl_2 100 rfl rfl
theorem m_341 : (Jvm.Cond.code ({ cls := "BeltRows", name := "join", desc := "(IIII)I" } : Jvm.MethodName) prog_1_method_3_code (7 : Nat) (Option.some Jvm.ClassFile.FieldType.int)) ∈ TBL := tbl_2 101 rfl rfl
theorem m_342 : (Jvm.Cond.methodLink "BeltRows" (64 : Nat) ({ cls := "BeltRows", name := "findBelt", desc := "(I)LBeltRows$Belt;" } : Jvm.MethodName)) ∈ TBL := tbl_2 102 rfl rfl
theorem m_344 : (Jvm.Cond.instanceMethod ({ cls := "BeltRows", name := "findBelt", desc := "(I)LBeltRows$Belt;" } : Jvm.MethodName)) ∈ TBL := tbl_2 104 rfl rfl
theorem m_345 : (Jvm.Cond.code ({ cls := "BeltRows", name := "findBelt", desc := "(I)LBeltRows$Belt;" } : Jvm.MethodName) prog_1_method_22_code (2 : Nat) (Option.some (Jvm.ClassFile.FieldType.object "BeltRows$Belt"))) ∈ TBL := tbl_2 105 rfl rfl
theorem m_346 : (Jvm.Cond.classLink "BeltRows" (135 : Nat) "java/util/NoSuchElementException") ∈ TBL := tbl_2 106 rfl rfl
theorem m_347 : (Jvm.Cond.instantiable "java/util/NoSuchElementException" (6 : Nat)) ∈ TBL := tbl_2 107 rfl rfl
theorem m_349 : (Jvm.Cond.selects "java/util/NoSuchElementException" ({ cls := "java/lang/Throwable", name := "fillInStackTrace", desc := "(I)Ljava/lang/Throwable;" } : Jvm.MethodName) ({ cls := "java/lang/Throwable", name := "fillInStackTrace", desc := "(I)Ljava/lang/Throwable;" } : Jvm.MethodName)) ∈ TBL := tbl_2 109 rfl rfl
theorem m_350 : (Jvm.Cond.lays "java/util/NoSuchElementException" "java/lang/Throwable" "cause" "Ljava/lang/Throwable;") ∈ TBL := tbl_2 110 rfl rfl
theorem m_351 : (Jvm.Cond.lays "java/util/NoSuchElementException" "java/lang/Throwable" "stackTrace" "[Ljava/lang/StackTraceElement;") ∈ TBL := tbl_2 111 rfl rfl
theorem m_352 : (Jvm.Cond.lays "java/util/NoSuchElementException" "java/lang/Throwable" "suppressedExceptions" "Ljava/util/List;") ∈ TBL := tbl_2 112 rfl rfl
theorem m_353 : (Jvm.Cond.lays "java/util/NoSuchElementException" "java/lang/Throwable" "detailMessage" "Ljava/lang/String;") ∈ TBL := tbl_2 113 rfl rfl
theorem m_354 : (Jvm.Cond.lays "java/util/NoSuchElementException" "java/lang/Throwable" "backtrace" "Ljava/lang/Object;") ∈ TBL := tbl_2 114 rfl rfl
theorem m_356 : (Jvm.Cond.methodLink "BeltRows" (139 : Nat) ({ cls := "java/util/NoSuchElementException", name := "<init>", desc := "(Ljava/lang/String;)V" } : Jvm.MethodName)) ∈ TBL := tbl_2 116 rfl rfl
theorem m_357 : (Jvm.Cond.instanceMethod ({ cls := "java/util/NoSuchElementException", name := "<init>", desc := "(Ljava/lang/String;)V" } : Jvm.MethodName)) ∈ TBL := tbl_2 117 rfl rfl
theorem m_358 : (Jvm.Cond.code ({ cls := "java/util/NoSuchElementException", name := "<init>", desc := "(Ljava/lang/String;)V" } : Jvm.MethodName) prog_28_method_4_code (2 : Nat) (Option.none : Option Jvm.ClassFile.FieldType)) ∈ TBL := tbl_2 118 rfl rfl
theorem m_359 : (Jvm.Cond.methodLink "java/util/NoSuchElementException" (13 : Nat) ({ cls := "java/lang/RuntimeException", name := "<init>", desc := "(Ljava/lang/String;)V" } : Jvm.MethodName)) ∈ TBL := tbl_2 119 rfl rfl
theorem m_360 : (Jvm.Cond.lays "java/util/NoSuchElementException" "java/lang/Throwable" "depth" "I") ∈ TBL := tbl_2 120 rfl rfl
theorem m_363 : (Jvm.Cond.methodLink "BeltRows" (73 : Nat) ({ cls := "BeltRows$Belt", name := "wayNumbered", desc := "(I)LBeltRows$Way;" } : Jvm.MethodName)) ∈ TBL := tbl_2 123 rfl rfl
theorem m_364 : (Jvm.Cond.instanceMethod ({ cls := "BeltRows$Belt", name := "wayNumbered", desc := "(I)LBeltRows$Way;" } : Jvm.MethodName)) ∈ TBL := tbl_2 124 rfl rfl
theorem m_365 : (Jvm.Cond.selects "BeltRows$Belt" ({ cls := "BeltRows$Belt", name := "wayNumbered", desc := "(I)LBeltRows$Way;" } : Jvm.MethodName) ({ cls := "BeltRows$Belt", name := "wayNumbered", desc := "(I)LBeltRows$Way;" } : Jvm.MethodName)) ∈ TBL := tbl_2 125 rfl rfl
theorem m_366 : (Jvm.Cond.code ({ cls := "BeltRows$Belt", name := "wayNumbered", desc := "(I)LBeltRows$Way;" } : Jvm.MethodName) prog_2_method_2_code (2 : Nat) (Option.some (Jvm.ClassFile.FieldType.object "BeltRows$Way"))) ∈ TBL := tbl_2 126 rfl rfl
theorem m_367 : (Jvm.Cond.methodLink "BeltRows" (77 : Nat) ({ cls := "BeltRows$Way", name := "leadTo", desc := "(LBeltRows$Belt;I)V" } : Jvm.MethodName)) ∈ TBL := tbl_2 127 rfl rfl
theorem m_368 : (Jvm.Cond.instanceMethod ({ cls := "BeltRows$Way", name := "leadTo", desc := "(LBeltRows$Belt;I)V" } : Jvm.MethodName)) ∈ TBL := tbl_2 128 rfl rfl
theorem m_369 : (Jvm.Cond.selects "BeltRows$Way" ({ cls := "BeltRows$Way", name := "leadTo", desc := "(LBeltRows$Belt;I)V" } : Jvm.MethodName) ({ cls := "BeltRows$Way", name := "leadTo", desc := "(LBeltRows$Belt;I)V" } : Jvm.MethodName)) ∈ TBL := tbl_2 129 rfl rfl
theorem m_370 : (Jvm.Cond.code ({ cls := "BeltRows$Way", name := "leadTo", desc := "(LBeltRows$Belt;I)V" } : Jvm.MethodName) prog_6_method_2_code (3 : Nat) (Option.none : Option Jvm.ClassFile.FieldType)) ∈ TBL := tbl_2 130 rfl rfl
theorem m_371 : (Jvm.Cond.methodLink "BeltRows" (83 : Nat) ({ cls := "BeltRows", name := "waysTo", desc := "(LBeltRows$Belt;)I" } : Jvm.MethodName)) ∈ TBL := tbl_2 131 rfl rfl
theorem m_373 : (Jvm.Cond.instanceMethod ({ cls := "BeltRows", name := "waysTo", desc := "(LBeltRows$Belt;)I" } : Jvm.MethodName)) ∈ TBL := tbl_2 133 rfl rfl
theorem m_374 : (Jvm.Cond.code ({ cls := "BeltRows", name := "waysTo", desc := "(LBeltRows$Belt;)I" } : Jvm.MethodName) prog_1_method_24_code (5 : Nat) (Option.some Jvm.ClassFile.FieldType.int)) ∈ TBL := tbl_2 134 rfl rfl
theorem m_375 : (Jvm.Cond.methodLink "BeltRowsLaw" (94 : Nat) ({ cls := "BeltRowsLaw", name := "run", desc := "(LBeltRows;IIZ)I" } : Jvm.MethodName)) ∈ TBL := tbl_2 135 rfl rfl
theorem m_376 : (Jvm.Cond.static ({ cls := "BeltRowsLaw", name := "run", desc := "(LBeltRows;IIZ)I" } : Jvm.MethodName)) ∈ TBL := tbl_2 136 rfl rfl
theorem m_377 : (Jvm.Cond.codeWith ({ cls := "BeltRowsLaw", name := "run", desc := "(LBeltRows;IIZ)I" } : Jvm.MethodName) method_5_code (5 : Nat) (Option.some Jvm.ClassFile.FieldType.int) [((0 : Nat), (7 : Nat), (10 : Nat), (21 : Nat)), ((0 : Nat), (7 : Nat), (14 : Nat), (13 : Nat))]) ∈ TBL := tbl_2 137 rfl rfl
theorem m_378 : (Jvm.Cond.methodLink "BeltRowsLaw" (23 : Nat) ({ cls := "BeltRows", name := "run", desc := "(IIZ)V" } : Jvm.MethodName)) ∈ TBL := tbl_2 138 rfl rfl
theorem m_379 : (Jvm.Cond.instanceMethod ({ cls := "BeltRows", name := "run", desc := "(IIZ)V" } : Jvm.MethodName)) ∈ TBL := tbl_2 139 rfl rfl
theorem m_380 : (Jvm.Cond.selects "BeltRows" ({ cls := "BeltRows", name := "run", desc := "(IIZ)V" } : Jvm.MethodName) ({ cls := "BeltRows", name := "run", desc := "(IIZ)V" } : Jvm.MethodName)) ∈ TBL := tbl_2 140 rfl rfl
theorem m_381 : (Jvm.Cond.code ({ cls := "BeltRows", name := "run", desc := "(IIZ)V" } : Jvm.MethodName) prog_1_method_4_code (5 : Nat) (Option.none : Option Jvm.ClassFile.FieldType)) ∈ TBL := tbl_2 141 rfl rfl
theorem m_382 : (Jvm.Cond.methodLink "BeltRowsLaw" (98 : Nat) ({ cls := "BeltRowsLaw", name := "gaps", desc := "(LBeltRows;I)I" } : Jvm.MethodName)) ∈ TBL := tbl_2 142 rfl rfl
theorem m_383 : (Jvm.Cond.static ({ cls := "BeltRowsLaw", name := "gaps", desc := "(LBeltRows;I)I" } : Jvm.MethodName)) ∈ TBL := tbl_2 143 rfl rfl
theorem m_384 : (Jvm.Cond.codeWith ({ cls := "BeltRowsLaw", name := "gaps", desc := "(LBeltRows;I)I" } : Jvm.MethodName) method_6_code (3 : Nat) (Option.some Jvm.ClassFile.FieldType.int) [((0 : Nat), (5 : Nat), (8 : Nat), (13 : Nat))]) ∈ TBL := tbl_2 144 rfl rfl
theorem m_385 : (Jvm.Cond.methodLink "BeltRowsLaw" (27 : Nat) ({ cls := "BeltRows", name := "gaps", desc := "(I)V" } : Jvm.MethodName)) ∈ TBL := tbl_2 145 rfl rfl
theorem m_386 : (Jvm.Cond.instanceMethod ({ cls := "BeltRows", name := "gaps", desc := "(I)V" } : Jvm.MethodName)) ∈ TBL := tbl_2 146 rfl rfl
theorem m_387 : (Jvm.Cond.selects "BeltRows" ({ cls := "BeltRows", name := "gaps", desc := "(I)V" } : Jvm.MethodName) ({ cls := "BeltRows", name := "gaps", desc := "(I)V" } : Jvm.MethodName)) ∈ TBL := tbl_2 147 rfl rfl
theorem m_388 : (Jvm.Cond.code ({ cls := "BeltRows", name := "gaps", desc := "(I)V" } : Jvm.MethodName) prog_1_method_5_code (2 : Nat) (Option.none : Option Jvm.ClassFile.FieldType)) ∈ TBL := tbl_2 148 rfl rfl
theorem m_389 : (Jvm.Cond.methodLink "BeltRowsLaw" (102 : Nat) ({ cls := "BeltRowsLaw", name := "scanner", desc := "(LBeltRows;III[J)I" } : Jvm.MethodName)) ∈ TBL := tbl_2 149 rfl rfl
theorem m_390 : (Jvm.Cond.static ({ cls := "BeltRowsLaw", name := "scanner", desc := "(LBeltRows;III[J)I" } : Jvm.MethodName)) ∈ TBL := tbl_2 150 rfl rfl
theorem m_391 : (Jvm.Cond.codeWith ({ cls := "BeltRowsLaw", name := "scanner", desc := "(LBeltRows;III[J)I" } : Jvm.MethodName) method_7_code (6 : Nat) (Option.some Jvm.ClassFile.FieldType.int) [((0 : Nat), (12 : Nat), (15 : Nat), (21 : Nat)), ((0 : Nat), (12 : Nat), (19 : Nat), (13 : Nat)), ((0 : Nat), (12 : Nat), (23 : Nat), (15 : Nat))]) ∈ TBL := tbl_2 151 rfl rfl
theorem m_392 : (Jvm.Cond.methodLink "BeltRowsLaw" (31 : Nat) ({ cls := "BeltRows", name := "scanner", desc := "(III)I" } : Jvm.MethodName)) ∈ TBL := tbl_2 152 rfl rfl
theorem m_393 : (Jvm.Cond.instanceMethod ({ cls := "BeltRows", name := "scanner", desc := "(III)I" } : Jvm.MethodName)) ∈ TBL := tbl_2 153 rfl rfl
theorem m_394 : (Jvm.Cond.selects "BeltRows" ({ cls := "BeltRows", name := "scanner", desc := "(III)I" } : Jvm.MethodName) ({ cls := "BeltRows", name := "scanner", desc := "(III)I" } : Jvm.MethodName)) ∈ TBL := tbl_2 154 rfl rfl
theorem m_395 : (Jvm.Cond.code ({ cls := "BeltRows", name := "scanner", desc := "(III)I" } : Jvm.MethodName) prog_1_method_6_code (6 : Nat) (Option.some Jvm.ClassFile.FieldType.int)) ∈ TBL := tbl_2 155 rfl rfl
theorem m_397 : (Jvm.Cond.classLink "BeltRows" (99 : Nat) "BeltRows$Scanner") ∈ TBL := tbl_2 157 rfl rfl
theorem m_398 : (Jvm.Cond.instantiable "BeltRows$Scanner" (4 : Nat)) ∈ TBL := tbl_2 158 rfl rfl
theorem m_399 : (Jvm.Cond.methodLink "BeltRows" (101 : Nat) ({ cls := "BeltRows$Scanner", name := "<init>", desc := "(ILBeltRows$Belt;II)V" } : Jvm.MethodName)) ∈ TBL := tbl_2 159 rfl rfl
theorem m_400 : (Jvm.Cond.instanceMethod ({ cls := "BeltRows$Scanner", name := "<init>", desc := "(ILBeltRows$Belt;II)V" } : Jvm.MethodName)) ∈ TBL := tbl_2 160 rfl rfl
theorem m_401 : (Jvm.Cond.code ({ cls := "BeltRows$Scanner", name := "<init>", desc := "(ILBeltRows$Belt;II)V" } : Jvm.MethodName) prog_5_method_1_code (5 : Nat) (Option.none : Option Jvm.ClassFile.FieldType)) ∈ TBL := tbl_2 161 rfl rfl
theorem m_402 : (Jvm.Cond.methodLink "BeltRows$Scanner" (1 : Nat) ({ cls := "java/lang/Object", name := "<init>", desc := "()V" } : Jvm.MethodName)) ∈ TBL := tbl_2 162 rfl rfl
theorem m_403 : (Jvm.Cond.fieldLink "BeltRows$Scanner" (7 : Nat) "BeltRows$Scanner" "number" "I") ∈ TBL := tbl_2 163 rfl rfl
theorem m_404 : (Jvm.Cond.fieldLink "BeltRows" (307 : Nat) "BeltRows$Scanner" "number" "I") ∈ TBL := tbl_2 164 rfl rfl
theorem m_405 : (Jvm.Cond.fieldLink "BeltRows$Scanner" (13 : Nat) "BeltRows$Scanner" "belt" "LBeltRows$Belt;") ∈ TBL := tbl_2 165 rfl rfl
theorem m_406 : (Jvm.Cond.fieldLink "BeltRows" (302 : Nat) "BeltRows$Scanner" "belt" "LBeltRows$Belt;") ∈ TBL := tbl_2 166 rfl rfl
theorem m_407 : (Jvm.Cond.fieldLink "BeltRows$Scanner" (17 : Nat) "BeltRows$Scanner" "place" "I") ∈ TBL := tbl_2 167 rfl rfl
theorem m_408 : (Jvm.Cond.fieldLink "BeltRows" (303 : Nat) "BeltRows$Scanner" "place" "I") ∈ TBL := tbl_2 168 rfl rfl
theorem m_409 : (Jvm.Cond.fieldLink "BeltRows$Scanner" (20 : Nat) "BeltRows$Scanner" "delay" "I") ∈ TBL := tbl_2 169 rfl rfl
theorem m_410 : (Jvm.Cond.fieldLink "BeltRows" (304 : Nat) "BeltRows$Scanner" "delay" "I") ∈ TBL := tbl_2 170 rfl rfl
theorem m_411 : (Jvm.Cond.laysFinal "BeltRows$Scanner" "BeltRows$Scanner" "number" "I") ∈ TBL := tbl_2 171 rfl rfl
theorem m_413 : (Jvm.Cond.laysFinal "BeltRows$Scanner" "BeltRows$Scanner" "belt" "LBeltRows$Belt;") ∈ TBL := tbl_2 173 rfl rfl
theorem m_415 : (Jvm.Cond.laysFinal "BeltRows$Scanner" "BeltRows$Scanner" "place" "I") ∈ TBL := tbl_2 175 rfl rfl
theorem m_417 : (Jvm.Cond.laysFinal "BeltRows$Scanner" "BeltRows$Scanner" "delay" "I") ∈ TBL := tbl_2 177 rfl rfl
theorem m_420 : (Jvm.Cond.methodLink "BeltRowsLaw" (106 : Nat) ({ cls := "BeltRowsLaw", name := "item", desc := "(LBeltRows;II[J)I" } : Jvm.MethodName)) ∈ TBL := tbl_2 180 rfl rfl
theorem m_421 : (Jvm.Cond.static ({ cls := "BeltRowsLaw", name := "item", desc := "(LBeltRows;II[J)I" } : Jvm.MethodName)) ∈ TBL := tbl_2 181 rfl rfl
theorem m_422 : (Jvm.Cond.codeWith ({ cls := "BeltRowsLaw", name := "item", desc := "(LBeltRows;II[J)I" } : Jvm.MethodName) method_8_code (5 : Nat) (Option.some Jvm.ClassFile.FieldType.int) [((0 : Nat), (10 : Nat), (13 : Nat), (21 : Nat)), ((0 : Nat), (10 : Nat), (17 : Nat), (13 : Nat)), ((0 : Nat), (10 : Nat), (21 : Nat), (15 : Nat))]) ∈ TBL := tbl_2 182 rfl rfl
theorem m_423 : (Jvm.Cond.methodLink "BeltRowsLaw" (35 : Nat) ({ cls := "BeltRows", name := "item", desc := "(II)I" } : Jvm.MethodName)) ∈ TBL := tbl_2 183 rfl rfl
theorem m_424 : (Jvm.Cond.instanceMethod ({ cls := "BeltRows", name := "item", desc := "(II)I" } : Jvm.MethodName)) ∈ TBL := tbl_2 184 rfl rfl
theorem m_425 : (Jvm.Cond.selects "BeltRows" ({ cls := "BeltRows", name := "item", desc := "(II)I" } : Jvm.MethodName) ({ cls := "BeltRows", name := "item", desc := "(II)I" } : Jvm.MethodName)) ∈ TBL := tbl_2 185 rfl rfl
theorem m_426 : (Jvm.Cond.code ({ cls := "BeltRows", name := "item", desc := "(II)I" } : Jvm.MethodName) prog_1_method_7_code (6 : Nat) (Option.some Jvm.ClassFile.FieldType.int)) ∈ TBL := tbl_2 186 rfl rfl
theorem m_428 : (Jvm.Cond.methodLink "BeltRows" (106 : Nat) ({ cls := "BeltRows", name := "missingToRoom", desc := "(LBeltRows$Belt;)I" } : Jvm.MethodName)) ∈ TBL := tbl_2 188 rfl rfl
theorem m_430 : (Jvm.Cond.instanceMethod ({ cls := "BeltRows", name := "missingToRoom", desc := "(LBeltRows$Belt;)I" } : Jvm.MethodName)) ∈ TBL := tbl_2 190 rfl rfl
theorem m_431 : (Jvm.Cond.code ({ cls := "BeltRows", name := "missingToRoom", desc := "(LBeltRows$Belt;)I" } : Jvm.MethodName) prog_1_method_26_code (2 : Nat) (Option.some Jvm.ClassFile.FieldType.int)) ∈ TBL := tbl_2 191 rfl rfl
theorem m_432 : (Jvm.Cond.methodLink "BeltRows" (172 : Nat) ({ cls := "BeltRows$Item", name := "rear", desc := "()I" } : Jvm.MethodName)) ∈ TBL := tbl_2 192 rfl rfl
theorem m_433 : (Jvm.Cond.instanceMethod ({ cls := "BeltRows$Item", name := "rear", desc := "()I" } : Jvm.MethodName)) ∈ TBL := tbl_2 193 rfl rfl
theorem m_434 : (Jvm.Cond.selects "BeltRows$Item" ({ cls := "BeltRows$Item", name := "rear", desc := "()I" } : Jvm.MethodName) ({ cls := "BeltRows$Item", name := "rear", desc := "()I" } : Jvm.MethodName)) ∈ TBL := tbl_2 194 rfl rfl
theorem m_435 : (Jvm.Cond.code ({ cls := "BeltRows$Item", name := "rear", desc := "()I" } : Jvm.MethodName) prog_4_method_2_code (1 : Nat) (Option.some Jvm.ClassFile.FieldType.int)) ∈ TBL := tbl_2 195 rfl rfl
theorem m_436 : (Jvm.Cond.methodLink "BeltRows" (239 : Nat) ({ cls := "java/lang/Math", name := "max", desc := "(II)I" } : Jvm.MethodName)) ∈ TBL := tbl_2 196 rfl rfl
theorem m_437 : (Jvm.Cond.classLink "BeltRows" (109 : Nat) "BeltRows$Item") ∈ TBL := tbl_2 197 rfl rfl
theorem m_438 : (Jvm.Cond.instantiable "BeltRows$Item" (11 : Nat)) ∈ TBL := tbl_2 198 rfl rfl
theorem m_439 : (Jvm.Cond.methodLink "BeltRows" (111 : Nat) ({ cls := "BeltRows$Item", name := "<init>", desc := "(III)V" } : Jvm.MethodName)) ∈ TBL := tbl_2 199 rfl rfl
theorem m_440 : (Jvm.Cond.instanceMethod ({ cls := "BeltRows$Item", name := "<init>", desc := "(III)V" } : Jvm.MethodName)) ∈ TBL := tbl_2 200 rfl rfl
theorem m_441 : (Jvm.Cond.code ({ cls := "BeltRows$Item", name := "<init>", desc := "(III)V" } : Jvm.MethodName) prog_4_method_1_code (4 : Nat) (Option.none : Option Jvm.ClassFile.FieldType)) ∈ TBL := tbl_2 201 rfl rfl
theorem m_442 : (Jvm.Cond.methodLink "BeltRows$Item" (3 : Nat) ({ cls := "java/lang/Object", name := "<init>", desc := "()V" } : Jvm.MethodName)) ∈ TBL := tbl_2 202 rfl rfl
theorem m_443 : (Jvm.Cond.fieldLink "BeltRows$Item" (9 : Nat) "BeltRows$Item" "number" "I") ∈ TBL := tbl_2 203 rfl rfl
theorem m_444 : (Jvm.Cond.fieldLink "BeltRows" (116 : Nat) "BeltRows$Item" "number" "I") ∈ TBL := tbl_2 204 rfl rfl
theorem m_445 : (Jvm.Cond.fieldLink "BeltRows$Item" (15 : Nat) "BeltRows$Item" "length" "I") ∈ TBL := tbl_2 205 rfl rfl
theorem m_446 : (Jvm.Cond.fieldLink "BeltRows" (198 : Nat) "BeltRows$Item" "length" "I") ∈ TBL := tbl_2 206 rfl rfl
theorem m_447 : (Jvm.Cond.fieldLink "BeltRows$Item" (18 : Nat) "BeltRows$Item" "putAt" "I") ∈ TBL := tbl_2 207 rfl rfl
theorem m_448 : (Jvm.Cond.fieldLink "BeltRows" (202 : Nat) "BeltRows$Item" "putAt" "I") ∈ TBL := tbl_2 208 rfl rfl
theorem m_449 : (Jvm.Cond.fieldLink "BeltRows$Item" (21 : Nat) "BeltRows$Item" "belt" "LBeltRows$Belt;") ∈ TBL := tbl_2 209 rfl rfl
theorem m_450 : (Jvm.Cond.fieldLink "BeltRows" (188 : Nat) "BeltRows$Item" "belt" "LBeltRows$Belt;") ∈ TBL := tbl_2 210 rfl rfl
theorem m_451 : (Jvm.Cond.fieldLink "BeltRows$Item" (25 : Nat) "BeltRows$Item" "ahead" "LBeltRows$Item;") ∈ TBL := tbl_2 211 rfl rfl
theorem m_452 : (Jvm.Cond.fieldLink "BeltRows$Belt" (74 : Nat) "BeltRows$Item" "ahead" "LBeltRows$Item;") ∈ TBL := tbl_2 212 rfl rfl
theorem m_453 : (Jvm.Cond.fieldLink "BeltRows$Item" (29 : Nat) "BeltRows$Item" "behind" "LBeltRows$Item;") ∈ TBL := tbl_2 213 rfl rfl
theorem m_454 : (Jvm.Cond.fieldLink "BeltRows$Belt" (71 : Nat) "BeltRows$Item" "behind" "LBeltRows$Item;") ∈ TBL := tbl_2 214 rfl rfl
theorem m_455 : (Jvm.Cond.fieldLink "BeltRows" (168 : Nat) "BeltRows$Item" "behind" "LBeltRows$Item;") ∈ TBL := tbl_2 215 rfl rfl
theorem m_456 : (Jvm.Cond.fieldLink "BeltRows$Item" (32 : Nat) "BeltRows$Item" "state" "I") ∈ TBL := tbl_2 216 rfl rfl
theorem m_457 : (Jvm.Cond.fieldLink "BeltRows" (194 : Nat) "BeltRows$Item" "state" "I") ∈ TBL := tbl_2 217 rfl rfl
theorem m_458 : (Jvm.Cond.fieldLink "BeltRows$Item" (35 : Nat) "BeltRows$Item" "place" "I") ∈ TBL := tbl_2 218 rfl rfl
theorem m_459 : (Jvm.Cond.fieldLink "BeltRows$Belt" (56 : Nat) "BeltRows$Item" "place" "I") ∈ TBL := tbl_2 219 rfl rfl
theorem m_460 : (Jvm.Cond.fieldLink "BeltRows" (160 : Nat) "BeltRows$Item" "place" "I") ∈ TBL := tbl_2 220 rfl rfl
theorem m_461 : (Jvm.Cond.fieldLink "BeltRows$Item" (38 : Nat) "BeltRows$Item" "expected" "I") ∈ TBL := tbl_2 221 rfl rfl
theorem m_462 : (Jvm.Cond.fieldLink "BeltRows" (199 : Nat) "BeltRows$Item" "expected" "I") ∈ TBL := tbl_2 222 rfl rfl
theorem m_463 : (Jvm.Cond.fieldLink "BeltRows$Item" (41 : Nat) "BeltRows$Item" "way" "I") ∈ TBL := tbl_2 223 rfl rfl
theorem m_464 : (Jvm.Cond.fieldLink "BeltRows$Belt" (43 : Nat) "BeltRows$Item" "way" "I") ∈ TBL := tbl_2 224 rfl rfl
theorem m_465 : (Jvm.Cond.fieldLink "BeltRows" (129 : Nat) "BeltRows$Item" "way" "I") ∈ TBL := tbl_2 225 rfl rfl
theorem m_466 : (Jvm.Cond.fieldLink "BeltRows$Item" (44 : Nat) "BeltRows$Item" "wasTold" "Z") ∈ TBL := tbl_2 226 rfl rfl
theorem m_467 : (Jvm.Cond.fieldLink "BeltRows" (126 : Nat) "BeltRows$Item" "wasTold" "Z") ∈ TBL := tbl_2 227 rfl rfl
theorem m_468 : (Jvm.Cond.laysFinal "BeltRows$Item" "BeltRows$Item" "number" "I") ∈ TBL := tbl_2 228 rfl rfl
theorem m_470 : (Jvm.Cond.laysFinal "BeltRows$Item" "BeltRows$Item" "length" "I") ∈ TBL := tbl_2 230 rfl rfl
theorem m_472 : (Jvm.Cond.laysFinal "BeltRows$Item" "BeltRows$Item" "putAt" "I") ∈ TBL := tbl_2 232 rfl rfl
theorem m_474 : (Jvm.Cond.lays "BeltRows$Item" "BeltRows$Item" "belt" "LBeltRows$Belt;") ∈ TBL := tbl_2 234 rfl rfl
theorem m_476 : (Jvm.Cond.lays "BeltRows$Item" "BeltRows$Item" "ahead" "LBeltRows$Item;") ∈ TBL := tbl_2 236 rfl rfl
theorem m_478 : (Jvm.Cond.lays "BeltRows$Item" "BeltRows$Item" "behind" "LBeltRows$Item;") ∈ TBL := tbl_2 238 rfl rfl
theorem m_480 : (Jvm.Cond.lays "BeltRows$Item" "BeltRows$Item" "state" "I") ∈ TBL := tbl_3 0 rfl rfl
theorem m_482 : (Jvm.Cond.lays "BeltRows$Item" "BeltRows$Item" "place" "I") ∈ TBL := tbl_3 2 rfl rfl
theorem m_484 : (Jvm.Cond.lays "BeltRows$Item" "BeltRows$Item" "expected" "I") ∈ TBL := tbl_3 4 rfl rfl
theorem m_486 : (Jvm.Cond.lays "BeltRows$Item" "BeltRows$Item" "way" "I") ∈ TBL := tbl_3 6 rfl rfl
theorem m_488 : (Jvm.Cond.lays "BeltRows$Item" "BeltRows$Item" "wasTold" "Z") ∈ TBL := tbl_3 8 rfl rfl
theorem m_491 : (Jvm.Cond.methodLink "BeltRows" (112 : Nat) ({ cls := "BeltRows$Belt", name := "takeOn", desc := "(LBeltRows$Item;)V" } : Jvm.MethodName)) ∈ TBL := tbl_3 11 rfl rfl
theorem m_492 : (Jvm.Cond.instanceMethod ({ cls := "BeltRows$Belt", name := "takeOn", desc := "(LBeltRows$Item;)V" } : Jvm.MethodName)) ∈ TBL := tbl_3 12 rfl rfl
theorem m_493 : (Jvm.Cond.selects "BeltRows$Belt" ({ cls := "BeltRows$Belt", name := "takeOn", desc := "(LBeltRows$Item;)V" } : Jvm.MethodName) ({ cls := "BeltRows$Belt", name := "takeOn", desc := "(LBeltRows$Item;)V" } : Jvm.MethodName)) ∈ TBL := tbl_3 13 rfl rfl
theorem m_494 : (Jvm.Cond.code ({ cls := "BeltRows$Belt", name := "takeOn", desc := "(LBeltRows$Item;)V" } : Jvm.MethodName) prog_2_method_6_code (2 : Nat) (Option.none : Option Jvm.ClassFile.FieldType)) ∈ TBL := tbl_3 14 rfl rfl
theorem m_495 : (Jvm.Cond.methodLink "BeltRows$Belt" (67 : Nat) ({ cls := "BeltRows$Item", name := "startOn", desc := "(LBeltRows$Belt;LBeltRows$Item;)V" } : Jvm.MethodName)) ∈ TBL := tbl_3 15 rfl rfl
theorem m_496 : (Jvm.Cond.instanceMethod ({ cls := "BeltRows$Item", name := "startOn", desc := "(LBeltRows$Belt;LBeltRows$Item;)V" } : Jvm.MethodName)) ∈ TBL := tbl_3 16 rfl rfl
theorem m_497 : (Jvm.Cond.selects "BeltRows$Item" ({ cls := "BeltRows$Item", name := "startOn", desc := "(LBeltRows$Belt;LBeltRows$Item;)V" } : Jvm.MethodName) ({ cls := "BeltRows$Item", name := "startOn", desc := "(LBeltRows$Belt;LBeltRows$Item;)V" } : Jvm.MethodName)) ∈ TBL := tbl_3 17 rfl rfl
theorem m_498 : (Jvm.Cond.code ({ cls := "BeltRows$Item", name := "startOn", desc := "(LBeltRows$Belt;LBeltRows$Item;)V" } : Jvm.MethodName) prog_4_method_3_code (3 : Nat) (Option.none : Option Jvm.ClassFile.FieldType)) ∈ TBL := tbl_3 18 rfl rfl
theorem m_499 : (Jvm.Cond.methodLink "BeltRows$Item" (48 : Nat) ({ cls := "BeltRows$Item", name := "forgetWay", desc := "()V" } : Jvm.MethodName)) ∈ TBL := tbl_3 19 rfl rfl
theorem m_501 : (Jvm.Cond.instanceMethod ({ cls := "BeltRows$Item", name := "forgetWay", desc := "()V" } : Jvm.MethodName)) ∈ TBL := tbl_3 21 rfl rfl
theorem m_502 : (Jvm.Cond.code ({ cls := "BeltRows$Item", name := "forgetWay", desc := "()V" } : Jvm.MethodName) prog_4_method_6_code (1 : Nat) (Option.none : Option Jvm.ClassFile.FieldType)) ∈ TBL := tbl_3 22 rfl rfl
theorem m_503 : (Jvm.Cond.methodLink "BeltRowsLaw" (109 : Nat) ({ cls := "BeltRowsLaw", name := "divert", desc := "(LBeltRows;II[J)I" } : Jvm.MethodName)) ∈ TBL := tbl_3 23 rfl rfl
theorem m_504 : (Jvm.Cond.static ({ cls := "BeltRowsLaw", name := "divert", desc := "(LBeltRows;II[J)I" } : Jvm.MethodName)) ∈ TBL := tbl_3 24 rfl rfl
theorem m_505 : (Jvm.Cond.codeWith ({ cls := "BeltRowsLaw", name := "divert", desc := "(LBeltRows;II[J)I" } : Jvm.MethodName) method_9_code (5 : Nat) (Option.some Jvm.ClassFile.FieldType.int) [((0 : Nat), (10 : Nat), (13 : Nat), (21 : Nat)), ((0 : Nat), (10 : Nat), (17 : Nat), (13 : Nat)), ((0 : Nat), (10 : Nat), (21 : Nat), (41 : Nat))]) ∈ TBL := tbl_3 25 rfl rfl
theorem m_506 : (Jvm.Cond.classLink "BeltRowsLaw" (41 : Nat) "java/lang/IllegalStateException") ∈ TBL := tbl_3 26 rfl rfl
theorem m_507 : (Jvm.Cond.methodLink "BeltRowsLaw" (38 : Nat) ({ cls := "BeltRows", name := "divert", desc := "(II)I" } : Jvm.MethodName)) ∈ TBL := tbl_3 27 rfl rfl
theorem m_508 : (Jvm.Cond.instanceMethod ({ cls := "BeltRows", name := "divert", desc := "(II)I" } : Jvm.MethodName)) ∈ TBL := tbl_3 28 rfl rfl
theorem m_509 : (Jvm.Cond.selects "BeltRows" ({ cls := "BeltRows", name := "divert", desc := "(II)I" } : Jvm.MethodName) ({ cls := "BeltRows", name := "divert", desc := "(II)I" } : Jvm.MethodName)) ∈ TBL := tbl_3 29 rfl rfl
theorem m_510 : (Jvm.Cond.code ({ cls := "BeltRows", name := "divert", desc := "(II)I" } : Jvm.MethodName) prog_1_method_8_code (5 : Nat) (Option.some Jvm.ClassFile.FieldType.int)) ∈ TBL := tbl_3 30 rfl rfl
theorem m_511 : (Jvm.Cond.methodLink "BeltRows" (119 : Nat) ({ cls := "BeltRows", name := "findItem", desc := "(I)LBeltRows$Item;" } : Jvm.MethodName)) ∈ TBL := tbl_3 31 rfl rfl
theorem m_513 : (Jvm.Cond.instanceMethod ({ cls := "BeltRows", name := "findItem", desc := "(I)LBeltRows$Item;" } : Jvm.MethodName)) ∈ TBL := tbl_3 33 rfl rfl
theorem m_514 : (Jvm.Cond.code ({ cls := "BeltRows", name := "findItem", desc := "(I)LBeltRows$Item;" } : Jvm.MethodName) prog_1_method_23_code (2 : Nat) (Option.some (Jvm.ClassFile.FieldType.object "BeltRows$Item"))) ∈ TBL := tbl_3 34 rfl rfl
theorem m_516 : (Jvm.Cond.methodLink "BeltRows" (123 : Nat) ({ cls := "BeltRows", name := "checkOnBelt", desc := "(LBeltRows$Item;)V" } : Jvm.MethodName)) ∈ TBL := tbl_3 36 rfl rfl
theorem m_517 : (Jvm.Cond.static ({ cls := "BeltRows", name := "checkOnBelt", desc := "(LBeltRows$Item;)V" } : Jvm.MethodName)) ∈ TBL := tbl_3 37 rfl rfl
theorem m_518 : (Jvm.Cond.code ({ cls := "BeltRows", name := "checkOnBelt", desc := "(LBeltRows$Item;)V" } : Jvm.MethodName) prog_1_method_21_code (1 : Nat) (Option.none : Option Jvm.ClassFile.FieldType)) ∈ TBL := tbl_3 38 rfl rfl
theorem m_519 : (Jvm.Cond.classLink "BeltRows" (163 : Nat) "java/lang/IllegalStateException") ∈ TBL := tbl_3 39 rfl rfl
theorem m_520 : (Jvm.Cond.instantiable "java/lang/IllegalStateException" (6 : Nat)) ∈ TBL := tbl_3 40 rfl rfl
theorem m_522 : (Jvm.Cond.selects "java/lang/IllegalStateException" ({ cls := "java/lang/Throwable", name := "fillInStackTrace", desc := "(I)Ljava/lang/Throwable;" } : Jvm.MethodName) ({ cls := "java/lang/Throwable", name := "fillInStackTrace", desc := "(I)Ljava/lang/Throwable;" } : Jvm.MethodName)) ∈ TBL := tbl_3 42 rfl rfl
theorem m_523 : (Jvm.Cond.lays "java/lang/IllegalStateException" "java/lang/Throwable" "cause" "Ljava/lang/Throwable;") ∈ TBL := tbl_3 43 rfl rfl
theorem m_524 : (Jvm.Cond.lays "java/lang/IllegalStateException" "java/lang/Throwable" "stackTrace" "[Ljava/lang/StackTraceElement;") ∈ TBL := tbl_3 44 rfl rfl
theorem m_525 : (Jvm.Cond.lays "java/lang/IllegalStateException" "java/lang/Throwable" "suppressedExceptions" "Ljava/util/List;") ∈ TBL := tbl_3 45 rfl rfl
theorem m_526 : (Jvm.Cond.lays "java/lang/IllegalStateException" "java/lang/Throwable" "detailMessage" "Ljava/lang/String;") ∈ TBL := tbl_3 46 rfl rfl
theorem m_527 : (Jvm.Cond.lays "java/lang/IllegalStateException" "java/lang/Throwable" "backtrace" "Ljava/lang/Object;") ∈ TBL := tbl_3 47 rfl rfl
theorem m_529 : (Jvm.Cond.methodLink "BeltRows" (167 : Nat) ({ cls := "java/lang/IllegalStateException", name := "<init>", desc := "(Ljava/lang/String;)V" } : Jvm.MethodName)) ∈ TBL := tbl_3 49 rfl rfl
theorem m_530 : (Jvm.Cond.instanceMethod ({ cls := "java/lang/IllegalStateException", name := "<init>", desc := "(Ljava/lang/String;)V" } : Jvm.MethodName)) ∈ TBL := tbl_3 50 rfl rfl
theorem m_531 : (Jvm.Cond.code ({ cls := "java/lang/IllegalStateException", name := "<init>", desc := "(Ljava/lang/String;)V" } : Jvm.MethodName) prog_14_method_2_code (2 : Nat) (Option.none : Option Jvm.ClassFile.FieldType)) ∈ TBL := tbl_3 51 rfl rfl
theorem m_532 : (Jvm.Cond.methodLink "java/lang/IllegalStateException" (7 : Nat) ({ cls := "java/lang/RuntimeException", name := "<init>", desc := "(Ljava/lang/String;)V" } : Jvm.MethodName)) ∈ TBL := tbl_3 52 rfl rfl
theorem m_533 : (Jvm.Cond.lays "java/lang/IllegalStateException" "java/lang/Throwable" "depth" "I") ∈ TBL := tbl_3 53 rfl rfl
theorem m_535 : (Jvm.Cond.methodLink "BeltRowsLaw" (112 : Nat) ({ cls := "BeltRowsLaw", name := "step", desc := "(LBeltRows;I[J)I" } : Jvm.MethodName)) ∈ TBL := tbl_3 55 rfl rfl
theorem m_536 : (Jvm.Cond.static ({ cls := "BeltRowsLaw", name := "step", desc := "(LBeltRows;I[J)I" } : Jvm.MethodName)) ∈ TBL := tbl_3 56 rfl rfl
theorem m_537 : (Jvm.Cond.codeWith ({ cls := "BeltRowsLaw", name := "step", desc := "(LBeltRows;I[J)I" } : Jvm.MethodName) method_10_code (4 : Nat) (Option.some Jvm.ClassFile.FieldType.int) [((0 : Nat), (9 : Nat), (12 : Nat), (13 : Nat))]) ∈ TBL := tbl_3 57 rfl rfl
theorem m_538 : (Jvm.Cond.methodLink "BeltRowsLaw" (43 : Nat) ({ cls := "BeltRows", name := "step", desc := "(I)I" } : Jvm.MethodName)) ∈ TBL := tbl_3 58 rfl rfl
theorem m_539 : (Jvm.Cond.instanceMethod ({ cls := "BeltRows", name := "step", desc := "(I)I" } : Jvm.MethodName)) ∈ TBL := tbl_3 59 rfl rfl
theorem m_540 : (Jvm.Cond.selects "BeltRows" ({ cls := "BeltRows", name := "step", desc := "(I)I" } : Jvm.MethodName) ({ cls := "BeltRows", name := "step", desc := "(I)I" } : Jvm.MethodName)) ∈ TBL := tbl_3 60 rfl rfl
theorem m_541 : (Jvm.Cond.code ({ cls := "BeltRows", name := "step", desc := "(I)I" } : Jvm.MethodName) prog_1_method_9_code (4 : Nat) (Option.some Jvm.ClassFile.FieldType.int)) ∈ TBL := tbl_3 61 rfl rfl
theorem m_542 : (Jvm.Cond.methodLink "BeltRows" (132 : Nat) ({ cls := "BeltRows", name := "passSecond", desc := "()V" } : Jvm.MethodName)) ∈ TBL := tbl_3 62 rfl rfl
theorem m_544 : (Jvm.Cond.instanceMethod ({ cls := "BeltRows", name := "passSecond", desc := "()V" } : Jvm.MethodName)) ∈ TBL := tbl_3 64 rfl rfl
theorem m_545 : (Jvm.Cond.code ({ cls := "BeltRows", name := "passSecond", desc := "()V" } : Jvm.MethodName) prog_1_method_27_code (3 : Nat) (Option.none : Option Jvm.ClassFile.FieldType)) ∈ TBL := tbl_3 65 rfl rfl
theorem m_546 : (Jvm.Cond.methodLink "BeltRows" (245 : Nat) ({ cls := "BeltRows", name := "tellReads", desc := "()V" } : Jvm.MethodName)) ∈ TBL := tbl_3 66 rfl rfl
theorem m_548 : (Jvm.Cond.instanceMethod ({ cls := "BeltRows", name := "tellReads", desc := "()V" } : Jvm.MethodName)) ∈ TBL := tbl_3 68 rfl rfl
theorem m_549 : (Jvm.Cond.code ({ cls := "BeltRows", name := "tellReads", desc := "()V" } : Jvm.MethodName) prog_1_method_28_code (5 : Nat) (Option.none : Option Jvm.ClassFile.FieldType)) ∈ TBL := tbl_3 69 rfl rfl
theorem m_550 : (Jvm.Cond.classLink "BeltRows" (144 : Nat) "BeltRows$Edge") ∈ TBL := tbl_3 70 rfl rfl
theorem m_551 : (Jvm.Cond.methodLink "BeltRows" (258 : Nat) ({ cls := "BeltRows", name := "tell", desc := "(LBeltRows$Edge;)V" } : Jvm.MethodName)) ∈ TBL := tbl_3 71 rfl rfl
theorem m_553 : (Jvm.Cond.instanceMethod ({ cls := "BeltRows", name := "tell", desc := "(LBeltRows$Edge;)V" } : Jvm.MethodName)) ∈ TBL := tbl_3 73 rfl rfl
theorem m_554 : (Jvm.Cond.code ({ cls := "BeltRows", name := "tell", desc := "(LBeltRows$Edge;)V" } : Jvm.MethodName) prog_1_method_29_code (2 : Nat) (Option.none : Option Jvm.ClassFile.FieldType)) ∈ TBL := tbl_3 74 rfl rfl
theorem m_555 : (Jvm.Cond.methodLink "BeltRows" (262 : Nat) ({ cls := "java/util/ArrayList", name := "set", desc := "(ILjava/lang/Object;)Ljava/lang/Object;" } : Jvm.MethodName)) ∈ TBL := tbl_3 75 rfl rfl
theorem m_556 : (Jvm.Cond.instanceMethod ({ cls := "java/util/ArrayList", name := "set", desc := "(ILjava/lang/Object;)Ljava/lang/Object;" } : Jvm.MethodName)) ∈ TBL := tbl_3 76 rfl rfl
theorem m_557 : (Jvm.Cond.selects "java/util/ArrayList" ({ cls := "java/util/ArrayList", name := "set", desc := "(ILjava/lang/Object;)Ljava/lang/Object;" } : Jvm.MethodName) ({ cls := "java/util/ArrayList", name := "set", desc := "(ILjava/lang/Object;)Ljava/lang/Object;" } : Jvm.MethodName)) ∈ TBL := tbl_3 77 rfl rfl
theorem m_558 : (Jvm.Cond.code ({ cls := "java/util/ArrayList", name := "set", desc := "(ILjava/lang/Object;)Ljava/lang/Object;" } : Jvm.MethodName) prog_24_method_23_code (4 : Nat) (Option.some (Jvm.ClassFile.FieldType.object "java/lang/Object"))) ∈ TBL := tbl_3 78 rfl rfl
theorem m_559 : (Jvm.Cond.methodLink "BeltRows" (266 : Nat) ({ cls := "java/util/ArrayList", name := "remove", desc := "(I)Ljava/lang/Object;" } : Jvm.MethodName)) ∈ TBL := tbl_3 79 rfl rfl
theorem m_560 : (Jvm.Cond.instanceMethod ({ cls := "java/util/ArrayList", name := "remove", desc := "(I)Ljava/lang/Object;" } : Jvm.MethodName)) ∈ TBL := tbl_3 80 rfl rfl
theorem m_561 : (Jvm.Cond.selects "java/util/ArrayList" ({ cls := "java/util/ArrayList", name := "remove", desc := "(I)Ljava/lang/Object;" } : Jvm.MethodName) ({ cls := "java/util/ArrayList", name := "remove", desc := "(I)Ljava/lang/Object;" } : Jvm.MethodName)) ∈ TBL := tbl_3 81 rfl rfl
theorem m_562 : (Jvm.Cond.code ({ cls := "java/util/ArrayList", name := "remove", desc := "(I)Ljava/lang/Object;" } : Jvm.MethodName) prog_24_method_29_code (4 : Nat) (Option.some (Jvm.ClassFile.FieldType.object "java/lang/Object"))) ∈ TBL := tbl_3 82 rfl rfl
theorem m_563 : (Jvm.Cond.methodLink "java/util/ArrayList" (144 : Nat) ({ cls := "java/util/ArrayList", name := "fastRemove", desc := "([Ljava/lang/Object;I)V" } : Jvm.MethodName)) ∈ TBL := tbl_3 83 rfl rfl
theorem m_565 : (Jvm.Cond.instanceMethod ({ cls := "java/util/ArrayList", name := "fastRemove", desc := "([Ljava/lang/Object;I)V" } : Jvm.MethodName)) ∈ TBL := tbl_3 85 rfl rfl
theorem m_566 : (Jvm.Cond.code ({ cls := "java/util/ArrayList", name := "fastRemove", desc := "([Ljava/lang/Object;I)V" } : Jvm.MethodName) prog_24_method_39_code (4 : Nat) (Option.none : Option Jvm.ClassFile.FieldType)) ∈ TBL := tbl_3 86 rfl rfl
theorem m_567 : (Jvm.Cond.methodLink "java/util/ArrayList" (112 : Nat) ({ cls := "java/lang/System", name := "arraycopy", desc := "(Ljava/lang/Object;ILjava/lang/Object;II)V" } : Jvm.MethodName)) ∈ TBL := tbl_3 87 rfl rfl
theorem m_568 : (Jvm.Cond.methodLink "BeltRows" (248 : Nat) ({ cls := "BeltRows", name := "letOut", desc := "(LBeltRows$Belt;)V" } : Jvm.MethodName)) ∈ TBL := tbl_3 88 rfl rfl
theorem m_570 : (Jvm.Cond.instanceMethod ({ cls := "BeltRows", name := "letOut", desc := "(LBeltRows$Belt;)V" } : Jvm.MethodName)) ∈ TBL := tbl_3 90 rfl rfl
theorem m_571 : (Jvm.Cond.code ({ cls := "BeltRows", name := "letOut", desc := "(LBeltRows$Belt;)V" } : Jvm.MethodName) prog_1_method_30_code (3 : Nat) (Option.none : Option Jvm.ClassFile.FieldType)) ∈ TBL := tbl_3 91 rfl rfl
theorem m_572 : (Jvm.Cond.methodLink "BeltRows" (269 : Nat) ({ cls := "BeltRows$Belt", name := "itemAtEnd", desc := "()LBeltRows$Item;" } : Jvm.MethodName)) ∈ TBL := tbl_3 92 rfl rfl
theorem m_573 : (Jvm.Cond.instanceMethod ({ cls := "BeltRows$Belt", name := "itemAtEnd", desc := "()LBeltRows$Item;" } : Jvm.MethodName)) ∈ TBL := tbl_3 93 rfl rfl
theorem m_574 : (Jvm.Cond.selects "BeltRows$Belt" ({ cls := "BeltRows$Belt", name := "itemAtEnd", desc := "()LBeltRows$Item;" } : Jvm.MethodName) ({ cls := "BeltRows$Belt", name := "itemAtEnd", desc := "()LBeltRows$Item;" } : Jvm.MethodName)) ∈ TBL := tbl_3 94 rfl rfl
theorem m_575 : (Jvm.Cond.code ({ cls := "BeltRows$Belt", name := "itemAtEnd", desc := "()LBeltRows$Item;" } : Jvm.MethodName) prog_2_method_4_code (1 : Nat) (Option.some (Jvm.ClassFile.FieldType.object "BeltRows$Item"))) ∈ TBL := tbl_3 95 rfl rfl
theorem m_576 : (Jvm.Cond.methodLink "BeltRows" (273 : Nat) ({ cls := "BeltRows$Belt", name := "wayOf", desc := "(LBeltRows$Item;)LBeltRows$Way;" } : Jvm.MethodName)) ∈ TBL := tbl_3 96 rfl rfl
theorem m_577 : (Jvm.Cond.instanceMethod ({ cls := "BeltRows$Belt", name := "wayOf", desc := "(LBeltRows$Item;)LBeltRows$Way;" } : Jvm.MethodName)) ∈ TBL := tbl_3 97 rfl rfl
theorem m_578 : (Jvm.Cond.selects "BeltRows$Belt" ({ cls := "BeltRows$Belt", name := "wayOf", desc := "(LBeltRows$Item;)LBeltRows$Way;" } : Jvm.MethodName) ({ cls := "BeltRows$Belt", name := "wayOf", desc := "(LBeltRows$Item;)LBeltRows$Way;" } : Jvm.MethodName)) ∈ TBL := tbl_3 98 rfl rfl
theorem m_579 : (Jvm.Cond.code ({ cls := "BeltRows$Belt", name := "wayOf", desc := "(LBeltRows$Item;)LBeltRows$Way;" } : Jvm.MethodName) prog_2_method_3_code (3 : Nat) (Option.some (Jvm.ClassFile.FieldType.object "BeltRows$Way"))) ∈ TBL := tbl_3 99 rfl rfl
theorem m_580 : (Jvm.Cond.methodLink "BeltRows$Belt" (48 : Nat) ({ cls := "BeltRows$Belt", name := "wayNumbered", desc := "(I)LBeltRows$Way;" } : Jvm.MethodName)) ∈ TBL := tbl_3 100 rfl rfl
theorem m_581 : (Jvm.Cond.methodLink "BeltRows" (177 : Nat) ({ cls := "BeltRows$Item", name := "leave", desc := "(I)V" } : Jvm.MethodName)) ∈ TBL := tbl_3 101 rfl rfl
theorem m_582 : (Jvm.Cond.instanceMethod ({ cls := "BeltRows$Item", name := "leave", desc := "(I)V" } : Jvm.MethodName)) ∈ TBL := tbl_3 102 rfl rfl
theorem m_583 : (Jvm.Cond.selects "BeltRows$Item" ({ cls := "BeltRows$Item", name := "leave", desc := "(I)V" } : Jvm.MethodName) ({ cls := "BeltRows$Item", name := "leave", desc := "(I)V" } : Jvm.MethodName)) ∈ TBL := tbl_3 103 rfl rfl
theorem m_584 : (Jvm.Cond.code ({ cls := "BeltRows$Item", name := "leave", desc := "(I)V" } : Jvm.MethodName) prog_4_method_4_code (2 : Nat) (Option.none : Option Jvm.ClassFile.FieldType)) ∈ TBL := tbl_3 104 rfl rfl
theorem m_585 : (Jvm.Cond.methodLink "BeltRows$Item" (51 : Nat) ({ cls := "BeltRows$Belt", name := "letGo", desc := "(LBeltRows$Item;)V" } : Jvm.MethodName)) ∈ TBL := tbl_3 105 rfl rfl
theorem m_586 : (Jvm.Cond.instanceMethod ({ cls := "BeltRows$Belt", name := "letGo", desc := "(LBeltRows$Item;)V" } : Jvm.MethodName)) ∈ TBL := tbl_3 106 rfl rfl
theorem m_587 : (Jvm.Cond.selects "BeltRows$Belt" ({ cls := "BeltRows$Belt", name := "letGo", desc := "(LBeltRows$Item;)V" } : Jvm.MethodName) ({ cls := "BeltRows$Belt", name := "letGo", desc := "(LBeltRows$Item;)V" } : Jvm.MethodName)) ∈ TBL := tbl_3 107 rfl rfl
theorem m_588 : (Jvm.Cond.code ({ cls := "BeltRows$Belt", name := "letGo", desc := "(LBeltRows$Item;)V" } : Jvm.MethodName) prog_2_method_7_code (2 : Nat) (Option.none : Option Jvm.ClassFile.FieldType)) ∈ TBL := tbl_3 108 rfl rfl
theorem m_589 : (Jvm.Cond.instantiable "BeltRows$Edge" (4 : Nat)) ∈ TBL := tbl_3 109 rfl rfl
theorem m_590 : (Jvm.Cond.methodLink "BeltRows" (277 : Nat) ({ cls := "BeltRows$Edge", name := "<init>", desc := "(IIII)V" } : Jvm.MethodName)) ∈ TBL := tbl_3 110 rfl rfl
theorem m_591 : (Jvm.Cond.instanceMethod ({ cls := "BeltRows$Edge", name := "<init>", desc := "(IIII)V" } : Jvm.MethodName)) ∈ TBL := tbl_3 111 rfl rfl
theorem m_592 : (Jvm.Cond.code ({ cls := "BeltRows$Edge", name := "<init>", desc := "(IIII)V" } : Jvm.MethodName) prog_3_method_1_code (5 : Nat) (Option.none : Option Jvm.ClassFile.FieldType)) ∈ TBL := tbl_3 112 rfl rfl
theorem m_593 : (Jvm.Cond.methodLink "BeltRows$Edge" (1 : Nat) ({ cls := "java/lang/Object", name := "<init>", desc := "()V" } : Jvm.MethodName)) ∈ TBL := tbl_3 113 rfl rfl
theorem m_594 : (Jvm.Cond.fieldLink "BeltRows$Edge" (7 : Nat) "BeltRows$Edge" "second" "I") ∈ TBL := tbl_3 114 rfl rfl
theorem m_595 : (Jvm.Cond.fieldLink "BeltRows" (146 : Nat) "BeltRows$Edge" "second" "I") ∈ TBL := tbl_3 115 rfl rfl
theorem m_596 : (Jvm.Cond.fieldLink "BeltRows$Edge" (13 : Nat) "BeltRows$Edge" "kind" "I") ∈ TBL := tbl_3 116 rfl rfl
theorem m_597 : (Jvm.Cond.fieldLink "BeltRows" (149 : Nat) "BeltRows$Edge" "kind" "I") ∈ TBL := tbl_3 117 rfl rfl
theorem m_598 : (Jvm.Cond.fieldLink "BeltRows$Edge" (16 : Nat) "BeltRows$Edge" "item" "I") ∈ TBL := tbl_3 118 rfl rfl
theorem m_599 : (Jvm.Cond.fieldLink "BeltRows" (152 : Nat) "BeltRows$Edge" "item" "I") ∈ TBL := tbl_3 119 rfl rfl
theorem m_600 : (Jvm.Cond.fieldLink "BeltRows$Edge" (19 : Nat) "BeltRows$Edge" "where" "I") ∈ TBL := tbl_3 120 rfl rfl
theorem m_601 : (Jvm.Cond.fieldLink "BeltRows" (155 : Nat) "BeltRows$Edge" "where" "I") ∈ TBL := tbl_3 121 rfl rfl
theorem m_602 : (Jvm.Cond.laysFinal "BeltRows$Edge" "BeltRows$Edge" "second" "I") ∈ TBL := tbl_3 122 rfl rfl
theorem m_604 : (Jvm.Cond.laysFinal "BeltRows$Edge" "BeltRows$Edge" "kind" "I") ∈ TBL := tbl_3 124 rfl rfl
theorem m_606 : (Jvm.Cond.laysFinal "BeltRows$Edge" "BeltRows$Edge" "item" "I") ∈ TBL := tbl_3 126 rfl rfl
theorem m_608 : (Jvm.Cond.laysFinal "BeltRows$Edge" "BeltRows$Edge" "where" "I") ∈ TBL := tbl_3 128 rfl rfl
theorem m_611 : (Jvm.Cond.methodLink "BeltRows" (252 : Nat) ({ cls := "BeltRows", name := "passOnTo", desc := "(LBeltRows$Belt;)V" } : Jvm.MethodName)) ∈ TBL := tbl_3 131 rfl rfl
theorem m_613 : (Jvm.Cond.instanceMethod ({ cls := "BeltRows", name := "passOnTo", desc := "(LBeltRows$Belt;)V" } : Jvm.MethodName)) ∈ TBL := tbl_3 133 rfl rfl
theorem m_614 : (Jvm.Cond.code ({ cls := "BeltRows", name := "passOnTo", desc := "(LBeltRows$Belt;)V" } : Jvm.MethodName) prog_1_method_31_code (5 : Nat) (Option.none : Option Jvm.ClassFile.FieldType)) ∈ TBL := tbl_3 134 rfl rfl
theorem m_615 : (Jvm.Cond.methodLink "BeltRows" (280 : Nat) ({ cls := "BeltRows", name := "giverTo", desc := "(LBeltRows$Belt;)LBeltRows$Belt;" } : Jvm.MethodName)) ∈ TBL := tbl_3 135 rfl rfl
theorem m_617 : (Jvm.Cond.instanceMethod ({ cls := "BeltRows", name := "giverTo", desc := "(LBeltRows$Belt;)LBeltRows$Belt;" } : Jvm.MethodName)) ∈ TBL := tbl_3 137 rfl rfl
theorem m_618 : (Jvm.Cond.code ({ cls := "BeltRows", name := "giverTo", desc := "(LBeltRows$Belt;)LBeltRows$Belt;" } : Jvm.MethodName) prog_1_method_32_code (7 : Nat) (Option.some (Jvm.ClassFile.FieldType.object "BeltRows$Belt"))) ∈ TBL := tbl_3 138 rfl rfl
theorem m_619 : (Jvm.Cond.methodLink "BeltRows" (287 : Nat) ({ cls := "BeltRows$Belt", name := "wayInUse", desc := "()LBeltRows$Way;" } : Jvm.MethodName)) ∈ TBL := tbl_3 139 rfl rfl
theorem m_620 : (Jvm.Cond.instanceMethod ({ cls := "BeltRows$Belt", name := "wayInUse", desc := "()LBeltRows$Way;" } : Jvm.MethodName)) ∈ TBL := tbl_3 140 rfl rfl
theorem m_621 : (Jvm.Cond.selects "BeltRows$Belt" ({ cls := "BeltRows$Belt", name := "wayInUse", desc := "()LBeltRows$Way;" } : Jvm.MethodName) ({ cls := "BeltRows$Belt", name := "wayInUse", desc := "()LBeltRows$Way;" } : Jvm.MethodName)) ∈ TBL := tbl_3 141 rfl rfl
theorem m_622 : (Jvm.Cond.code ({ cls := "BeltRows$Belt", name := "wayInUse", desc := "()LBeltRows$Way;" } : Jvm.MethodName) prog_2_method_5_code (2 : Nat) (Option.some (Jvm.ClassFile.FieldType.object "BeltRows$Way"))) ∈ TBL := tbl_3 142 rfl rfl
theorem m_623 : (Jvm.Cond.methodLink "BeltRows$Belt" (59 : Nat) ({ cls := "BeltRows$Belt", name := "itemAtEnd", desc := "()LBeltRows$Item;" } : Jvm.MethodName)) ∈ TBL := tbl_3 143 rfl rfl
theorem m_624 : (Jvm.Cond.methodLink "BeltRows$Belt" (63 : Nat) ({ cls := "BeltRows$Belt", name := "wayOf", desc := "(LBeltRows$Item;)LBeltRows$Way;" } : Jvm.MethodName)) ∈ TBL := tbl_3 144 rfl rfl
theorem m_625 : (Jvm.Cond.methodLink "BeltRows" (291 : Nat) ({ cls := "BeltRows$Way", name := "isDueBefore", desc := "(LBeltRows$Way;)Z" } : Jvm.MethodName)) ∈ TBL := tbl_3 145 rfl rfl
theorem m_626 : (Jvm.Cond.instanceMethod ({ cls := "BeltRows$Way", name := "isDueBefore", desc := "(LBeltRows$Way;)Z" } : Jvm.MethodName)) ∈ TBL := tbl_3 146 rfl rfl
theorem m_627 : (Jvm.Cond.selects "BeltRows$Way" ({ cls := "BeltRows$Way", name := "isDueBefore", desc := "(LBeltRows$Way;)Z" } : Jvm.MethodName) ({ cls := "BeltRows$Way", name := "isDueBefore", desc := "(LBeltRows$Way;)Z" } : Jvm.MethodName)) ∈ TBL := tbl_3 147 rfl rfl
theorem m_628 : (Jvm.Cond.code ({ cls := "BeltRows$Way", name := "isDueBefore", desc := "(LBeltRows$Way;)Z" } : Jvm.MethodName) prog_6_method_4_code (2 : Nat) (Option.some Jvm.ClassFile.FieldType.boolean)) ∈ TBL := tbl_3 148 rfl rfl
theorem m_629 : (Jvm.Cond.methodLink "BeltRows" (284 : Nat) ({ cls := "BeltRows$Belt", name := "letGo", desc := "(LBeltRows$Item;)V" } : Jvm.MethodName)) ∈ TBL := tbl_3 149 rfl rfl
theorem m_630 : (Jvm.Cond.methodLink "BeltRows" (255 : Nat) ({ cls := "BeltRows", name := "moveItems", desc := "(LBeltRows$Belt;)V" } : Jvm.MethodName)) ∈ TBL := tbl_3 150 rfl rfl
theorem m_632 : (Jvm.Cond.instanceMethod ({ cls := "BeltRows", name := "moveItems", desc := "(LBeltRows$Belt;)V" } : Jvm.MethodName)) ∈ TBL := tbl_3 152 rfl rfl
theorem m_633 : (Jvm.Cond.code ({ cls := "BeltRows", name := "moveItems", desc := "(LBeltRows$Belt;)V" } : Jvm.MethodName) prog_1_method_33_code (4 : Nat) (Option.none : Option Jvm.ClassFile.FieldType)) ∈ TBL := tbl_3 153 rfl rfl
theorem m_634 : (Jvm.Cond.methodLink "BeltRows" (295 : Nat) ({ cls := "BeltRows$Item", name := "goOn", desc := "(LBeltRows$Belt;I)V" } : Jvm.MethodName)) ∈ TBL := tbl_3 154 rfl rfl
theorem m_635 : (Jvm.Cond.instanceMethod ({ cls := "BeltRows$Item", name := "goOn", desc := "(LBeltRows$Belt;I)V" } : Jvm.MethodName)) ∈ TBL := tbl_3 155 rfl rfl
theorem m_636 : (Jvm.Cond.selects "BeltRows$Item" ({ cls := "BeltRows$Item", name := "goOn", desc := "(LBeltRows$Belt;I)V" } : Jvm.MethodName) ({ cls := "BeltRows$Item", name := "goOn", desc := "(LBeltRows$Belt;I)V" } : Jvm.MethodName)) ∈ TBL := tbl_3 156 rfl rfl
theorem m_637 : (Jvm.Cond.code ({ cls := "BeltRows$Item", name := "goOn", desc := "(LBeltRows$Belt;I)V" } : Jvm.MethodName) prog_4_method_5_code (4 : Nat) (Option.none : Option Jvm.ClassFile.FieldType)) ∈ TBL := tbl_3 157 rfl rfl
theorem m_638 : (Jvm.Cond.methodLink "BeltRows$Item" (58 : Nat) ({ cls := "BeltRows$Item", name := "rear", desc := "()I" } : Jvm.MethodName)) ∈ TBL := tbl_3 158 rfl rfl
theorem m_639 : (Jvm.Cond.methodLink "BeltRows$Item" (62 : Nat) ({ cls := "java/lang/Math", name := "min", desc := "(II)I" } : Jvm.MethodName)) ∈ TBL := tbl_3 159 rfl rfl
theorem m_640 : (Jvm.Cond.methodLink "BeltRows$Item" (71 : Nat) ({ cls := "java/lang/Math", name := "max", desc := "(II)I" } : Jvm.MethodName)) ∈ TBL := tbl_3 160 rfl rfl
theorem m_641 : (Jvm.Cond.methodLink "BeltRows" (298 : Nat) ({ cls := "BeltRows", name := "noteReads", desc := "(LBeltRows$Belt;LBeltRows$Item;I)V" } : Jvm.MethodName)) ∈ TBL := tbl_3 161 rfl rfl
theorem m_643 : (Jvm.Cond.instanceMethod ({ cls := "BeltRows", name := "noteReads", desc := "(LBeltRows$Belt;LBeltRows$Item;I)V" } : Jvm.MethodName)) ∈ TBL := tbl_3 163 rfl rfl
theorem m_644 : (Jvm.Cond.code ({ cls := "BeltRows", name := "noteReads", desc := "(LBeltRows$Belt;LBeltRows$Item;I)V" } : Jvm.MethodName) prog_1_method_34_code (7 : Nat) (Option.none : Option Jvm.ClassFile.FieldType)) ∈ TBL := tbl_3 164 rfl rfl
theorem m_645 : (Jvm.Cond.methodLink "BeltRowsLaw" (116 : Nat) ({ cls := "BeltRowsLaw", name := "edge", desc := "(LBeltRows;II[J)I" } : Jvm.MethodName)) ∈ TBL := tbl_3 165 rfl rfl
theorem m_646 : (Jvm.Cond.static ({ cls := "BeltRowsLaw", name := "edge", desc := "(LBeltRows;II[J)I" } : Jvm.MethodName)) ∈ TBL := tbl_3 166 rfl rfl
theorem m_647 : (Jvm.Cond.codeWith ({ cls := "BeltRowsLaw", name := "edge", desc := "(LBeltRows;II[J)I" } : Jvm.MethodName) method_11_code (5 : Nat) (Option.some Jvm.ClassFile.FieldType.int) [((0 : Nat), (10 : Nat), (13 : Nat), (21 : Nat)), ((0 : Nat), (10 : Nat), (17 : Nat), (13 : Nat))]) ∈ TBL := tbl_3 167 rfl rfl
theorem m_648 : (Jvm.Cond.methodLink "BeltRowsLaw" (47 : Nat) ({ cls := "BeltRows", name := "edge", desc := "(II)I" } : Jvm.MethodName)) ∈ TBL := tbl_3 168 rfl rfl
theorem m_649 : (Jvm.Cond.instanceMethod ({ cls := "BeltRows", name := "edge", desc := "(II)I" } : Jvm.MethodName)) ∈ TBL := tbl_3 169 rfl rfl
theorem m_650 : (Jvm.Cond.selects "BeltRows" ({ cls := "BeltRows", name := "edge", desc := "(II)I" } : Jvm.MethodName) ({ cls := "BeltRows", name := "edge", desc := "(II)I" } : Jvm.MethodName)) ∈ TBL := tbl_3 170 rfl rfl
theorem m_651 : (Jvm.Cond.code ({ cls := "BeltRows", name := "edge", desc := "(II)I" } : Jvm.MethodName) prog_1_method_10_code (4 : Nat) (Option.some Jvm.ClassFile.FieldType.int)) ∈ TBL := tbl_3 171 rfl rfl
theorem m_654 : (Jvm.Cond.methodLink "BeltRowsLaw" (119 : Nat) ({ cls := "BeltRowsLaw", name := "slip", desc := "(LBeltRows;II[J)I" } : Jvm.MethodName)) ∈ TBL := tbl_3 174 rfl rfl
theorem m_655 : (Jvm.Cond.static ({ cls := "BeltRowsLaw", name := "slip", desc := "(LBeltRows;II[J)I" } : Jvm.MethodName)) ∈ TBL := tbl_3 175 rfl rfl
theorem m_656 : (Jvm.Cond.codeWith ({ cls := "BeltRowsLaw", name := "slip", desc := "(LBeltRows;II[J)I" } : Jvm.MethodName) method_12_code (5 : Nat) (Option.some Jvm.ClassFile.FieldType.int) [((0 : Nat), (10 : Nat), (13 : Nat), (21 : Nat)), ((0 : Nat), (10 : Nat), (17 : Nat), (13 : Nat)), ((0 : Nat), (10 : Nat), (21 : Nat), (41 : Nat))]) ∈ TBL := tbl_3 176 rfl rfl
theorem m_657 : (Jvm.Cond.methodLink "BeltRowsLaw" (50 : Nat) ({ cls := "BeltRows", name := "slip", desc := "(II)I" } : Jvm.MethodName)) ∈ TBL := tbl_3 177 rfl rfl
theorem m_658 : (Jvm.Cond.instanceMethod ({ cls := "BeltRows", name := "slip", desc := "(II)I" } : Jvm.MethodName)) ∈ TBL := tbl_3 178 rfl rfl
theorem m_659 : (Jvm.Cond.selects "BeltRows" ({ cls := "BeltRows", name := "slip", desc := "(II)I" } : Jvm.MethodName) ({ cls := "BeltRows", name := "slip", desc := "(II)I" } : Jvm.MethodName)) ∈ TBL := tbl_3 179 rfl rfl
theorem m_660 : (Jvm.Cond.code ({ cls := "BeltRows", name := "slip", desc := "(II)I" } : Jvm.MethodName) prog_1_method_11_code (5 : Nat) (Option.some Jvm.ClassFile.FieldType.int)) ∈ TBL := tbl_3 180 rfl rfl
theorem m_663 : (Jvm.Cond.methodLink "BeltRowsLaw" (122 : Nat) ({ cls := "BeltRowsLaw", name := "take", desc := "(LBeltRows;I)I" } : Jvm.MethodName)) ∈ TBL := tbl_3 183 rfl rfl
theorem m_664 : (Jvm.Cond.static ({ cls := "BeltRowsLaw", name := "take", desc := "(LBeltRows;I)I" } : Jvm.MethodName)) ∈ TBL := tbl_3 184 rfl rfl
theorem m_665 : (Jvm.Cond.codeWith ({ cls := "BeltRowsLaw", name := "take", desc := "(LBeltRows;I)I" } : Jvm.MethodName) method_13_code (3 : Nat) (Option.some Jvm.ClassFile.FieldType.int) [((0 : Nat), (5 : Nat), (8 : Nat), (21 : Nat)), ((0 : Nat), (5 : Nat), (11 : Nat), (41 : Nat))]) ∈ TBL := tbl_3 185 rfl rfl
theorem m_666 : (Jvm.Cond.methodLink "BeltRowsLaw" (53 : Nat) ({ cls := "BeltRows", name := "take", desc := "(I)V" } : Jvm.MethodName)) ∈ TBL := tbl_3 186 rfl rfl
theorem m_667 : (Jvm.Cond.instanceMethod ({ cls := "BeltRows", name := "take", desc := "(I)V" } : Jvm.MethodName)) ∈ TBL := tbl_3 187 rfl rfl
theorem m_668 : (Jvm.Cond.selects "BeltRows" ({ cls := "BeltRows", name := "take", desc := "(I)V" } : Jvm.MethodName) ({ cls := "BeltRows", name := "take", desc := "(I)V" } : Jvm.MethodName)) ∈ TBL := tbl_3 188 rfl rfl
theorem m_669 : (Jvm.Cond.code ({ cls := "BeltRows", name := "take", desc := "(I)V" } : Jvm.MethodName) prog_1_method_12_code (3 : Nat) (Option.none : Option Jvm.ClassFile.FieldType)) ∈ TBL := tbl_3 189 rfl rfl
theorem m_670 : (Jvm.Cond.methodLink "BeltRowsLaw" (125 : Nat) ({ cls := "BeltRowsLaw", name := "clean", desc := "(LBeltRows;I[J)I" } : Jvm.MethodName)) ∈ TBL := tbl_3 190 rfl rfl
theorem m_671 : (Jvm.Cond.static ({ cls := "BeltRowsLaw", name := "clean", desc := "(LBeltRows;I[J)I" } : Jvm.MethodName)) ∈ TBL := tbl_3 191 rfl rfl
theorem m_672 : (Jvm.Cond.codeWith ({ cls := "BeltRowsLaw", name := "clean", desc := "(LBeltRows;I[J)I" } : Jvm.MethodName) method_14_code (4 : Nat) (Option.some Jvm.ClassFile.FieldType.int) [((0 : Nat), (9 : Nat), (12 : Nat), (21 : Nat)), ((0 : Nat), (9 : Nat), (15 : Nat), (41 : Nat))]) ∈ TBL := tbl_3 192 rfl rfl
theorem m_673 : (Jvm.Cond.methodLink "BeltRowsLaw" (56 : Nat) ({ cls := "BeltRows", name := "clean", desc := "(I)I" } : Jvm.MethodName)) ∈ TBL := tbl_3 193 rfl rfl
theorem m_674 : (Jvm.Cond.instanceMethod ({ cls := "BeltRows", name := "clean", desc := "(I)I" } : Jvm.MethodName)) ∈ TBL := tbl_3 194 rfl rfl
theorem m_675 : (Jvm.Cond.selects "BeltRows" ({ cls := "BeltRows", name := "clean", desc := "(I)I" } : Jvm.MethodName) ({ cls := "BeltRows", name := "clean", desc := "(I)I" } : Jvm.MethodName)) ∈ TBL := tbl_3 195 rfl rfl
theorem m_676 : (Jvm.Cond.code ({ cls := "BeltRows", name := "clean", desc := "(I)I" } : Jvm.MethodName) prog_1_method_13_code (5 : Nat) (Option.some Jvm.ClassFile.FieldType.int)) ∈ TBL := tbl_3 196 rfl rfl
theorem m_678 : (Jvm.Cond.methodLink "BeltRowsLaw" (128 : Nat) ({ cls := "BeltRowsLaw", name := "gap", desc := "(LBeltRows;II[J)I" } : Jvm.MethodName)) ∈ TBL := tbl_3 198 rfl rfl
theorem m_679 : (Jvm.Cond.static ({ cls := "BeltRowsLaw", name := "gap", desc := "(LBeltRows;II[J)I" } : Jvm.MethodName)) ∈ TBL := tbl_3 199 rfl rfl
theorem m_680 : (Jvm.Cond.codeWith ({ cls := "BeltRowsLaw", name := "gap", desc := "(LBeltRows;II[J)I" } : Jvm.MethodName) method_15_code (5 : Nat) (Option.some Jvm.ClassFile.FieldType.int) [((0 : Nat), (10 : Nat), (13 : Nat), (21 : Nat)), ((0 : Nat), (10 : Nat), (17 : Nat), (41 : Nat))]) ∈ TBL := tbl_3 200 rfl rfl
theorem m_681 : (Jvm.Cond.methodLink "BeltRowsLaw" (59 : Nat) ({ cls := "BeltRows", name := "gap", desc := "(II)I" } : Jvm.MethodName)) ∈ TBL := tbl_3 201 rfl rfl
theorem m_682 : (Jvm.Cond.instanceMethod ({ cls := "BeltRows", name := "gap", desc := "(II)I" } : Jvm.MethodName)) ∈ TBL := tbl_3 202 rfl rfl
theorem m_683 : (Jvm.Cond.selects "BeltRows" ({ cls := "BeltRows", name := "gap", desc := "(II)I" } : Jvm.MethodName) ({ cls := "BeltRows", name := "gap", desc := "(II)I" } : Jvm.MethodName)) ∈ TBL := tbl_3 203 rfl rfl
theorem m_684 : (Jvm.Cond.code ({ cls := "BeltRows", name := "gap", desc := "(II)I" } : Jvm.MethodName) prog_1_method_14_code (5 : Nat) (Option.some Jvm.ClassFile.FieldType.int)) ∈ TBL := tbl_3 204 rfl rfl
theorem m_686 : (Jvm.Cond.methodLink "BeltRowsLaw" (131 : Nat) ({ cls := "BeltRowsLaw", name := "told", desc := "(LBeltRows;II[J)I" } : Jvm.MethodName)) ∈ TBL := tbl_3 206 rfl rfl
theorem m_687 : (Jvm.Cond.static ({ cls := "BeltRowsLaw", name := "told", desc := "(LBeltRows;II[J)I" } : Jvm.MethodName)) ∈ TBL := tbl_3 207 rfl rfl
theorem m_688 : (Jvm.Cond.codeWith ({ cls := "BeltRowsLaw", name := "told", desc := "(LBeltRows;II[J)I" } : Jvm.MethodName) method_16_code (5 : Nat) (Option.some Jvm.ClassFile.FieldType.int) [((0 : Nat), (10 : Nat), (13 : Nat), (21 : Nat)), ((0 : Nat), (10 : Nat), (17 : Nat), (13 : Nat))]) ∈ TBL := tbl_3 208 rfl rfl
theorem m_689 : (Jvm.Cond.methodLink "BeltRowsLaw" (62 : Nat) ({ cls := "BeltRows", name := "told", desc := "(II)I" } : Jvm.MethodName)) ∈ TBL := tbl_3 209 rfl rfl
theorem m_690 : (Jvm.Cond.instanceMethod ({ cls := "BeltRows", name := "told", desc := "(II)I" } : Jvm.MethodName)) ∈ TBL := tbl_3 210 rfl rfl
theorem m_691 : (Jvm.Cond.selects "BeltRows" ({ cls := "BeltRows", name := "told", desc := "(II)I" } : Jvm.MethodName) ({ cls := "BeltRows", name := "told", desc := "(II)I" } : Jvm.MethodName)) ∈ TBL := tbl_3 211 rfl rfl
theorem m_692 : (Jvm.Cond.code ({ cls := "BeltRows", name := "told", desc := "(II)I" } : Jvm.MethodName) prog_1_method_15_code (5 : Nat) (Option.some Jvm.ClassFile.FieldType.int)) ∈ TBL := tbl_3 212 rfl rfl
theorem m_694 : (Jvm.Cond.methodLink "BeltRowsLaw" (134 : Nat) ({ cls := "BeltRowsLaw", name := "known", desc := "(LBeltRows;II[J)I" } : Jvm.MethodName)) ∈ TBL := tbl_3 214 rfl rfl
theorem m_695 : (Jvm.Cond.static ({ cls := "BeltRowsLaw", name := "known", desc := "(LBeltRows;II[J)I" } : Jvm.MethodName)) ∈ TBL := tbl_3 215 rfl rfl
theorem m_696 : (Jvm.Cond.codeWith ({ cls := "BeltRowsLaw", name := "known", desc := "(LBeltRows;II[J)I" } : Jvm.MethodName) method_17_code (5 : Nat) (Option.some Jvm.ClassFile.FieldType.int) [((0 : Nat), (10 : Nat), (13 : Nat), (21 : Nat)), ((0 : Nat), (10 : Nat), (17 : Nat), (13 : Nat))]) ∈ TBL := tbl_3 216 rfl rfl
theorem m_697 : (Jvm.Cond.methodLink "BeltRowsLaw" (65 : Nat) ({ cls := "BeltRows", name := "known", desc := "(II)I" } : Jvm.MethodName)) ∈ TBL := tbl_3 217 rfl rfl
theorem m_698 : (Jvm.Cond.instanceMethod ({ cls := "BeltRows", name := "known", desc := "(II)I" } : Jvm.MethodName)) ∈ TBL := tbl_3 218 rfl rfl
theorem m_699 : (Jvm.Cond.selects "BeltRows" ({ cls := "BeltRows", name := "known", desc := "(II)I" } : Jvm.MethodName) ({ cls := "BeltRows", name := "known", desc := "(II)I" } : Jvm.MethodName)) ∈ TBL := tbl_3 219 rfl rfl
theorem m_700 : (Jvm.Cond.code ({ cls := "BeltRows", name := "known", desc := "(II)I" } : Jvm.MethodName) prog_1_method_16_code (4 : Nat) (Option.some Jvm.ClassFile.FieldType.int)) ∈ TBL := tbl_3 220 rfl rfl
theorem m_701 : (Jvm.Cond.methodLink "BeltRows" (207 : Nat) ({ cls := "BeltRows$Way", name := "nextNumber", desc := "()I" } : Jvm.MethodName)) ∈ TBL := tbl_3 221 rfl rfl
theorem m_702 : (Jvm.Cond.instanceMethod ({ cls := "BeltRows$Way", name := "nextNumber", desc := "()I" } : Jvm.MethodName)) ∈ TBL := tbl_3 222 rfl rfl
theorem m_703 : (Jvm.Cond.selects "BeltRows$Way" ({ cls := "BeltRows$Way", name := "nextNumber", desc := "()I" } : Jvm.MethodName) ({ cls := "BeltRows$Way", name := "nextNumber", desc := "()I" } : Jvm.MethodName)) ∈ TBL := tbl_3 223 rfl rfl
theorem m_704 : (Jvm.Cond.code ({ cls := "BeltRows$Way", name := "nextNumber", desc := "()I" } : Jvm.MethodName) prog_6_method_3_code (1 : Nat) (Option.some Jvm.ClassFile.FieldType.int)) ∈ TBL := tbl_3 224 rfl rfl
theorem m_706 : (Jvm.Cond.methodLink "BeltRowsLaw" (137 : Nat) ({ cls := "BeltRowsLaw", name := "order", desc := "(LBeltRows;I[J)I" } : Jvm.MethodName)) ∈ TBL := tbl_3 226 rfl rfl
theorem m_707 : (Jvm.Cond.static ({ cls := "BeltRowsLaw", name := "order", desc := "(LBeltRows;I[J)I" } : Jvm.MethodName)) ∈ TBL := tbl_3 227 rfl rfl
theorem m_708 : (Jvm.Cond.codeWith ({ cls := "BeltRowsLaw", name := "order", desc := "(LBeltRows;I[J)I" } : Jvm.MethodName) method_18_code (4 : Nat) (Option.some Jvm.ClassFile.FieldType.int) [((0 : Nat), (9 : Nat), (12 : Nat), (21 : Nat))]) ∈ TBL := tbl_3 228 rfl rfl
theorem m_709 : (Jvm.Cond.methodLink "BeltRowsLaw" (68 : Nat) ({ cls := "BeltRows", name := "order", desc := "(I)I" } : Jvm.MethodName)) ∈ TBL := tbl_3 229 rfl rfl
theorem m_710 : (Jvm.Cond.instanceMethod ({ cls := "BeltRows", name := "order", desc := "(I)I" } : Jvm.MethodName)) ∈ TBL := tbl_3 230 rfl rfl
theorem m_711 : (Jvm.Cond.selects "BeltRows" ({ cls := "BeltRows", name := "order", desc := "(I)I" } : Jvm.MethodName) ({ cls := "BeltRows", name := "order", desc := "(I)I" } : Jvm.MethodName)) ∈ TBL := tbl_3 231 rfl rfl
theorem m_712 : (Jvm.Cond.code ({ cls := "BeltRows", name := "order", desc := "(I)I" } : Jvm.MethodName) prog_1_method_17_code (2 : Nat) (Option.some Jvm.ClassFile.FieldType.int)) ∈ TBL := tbl_3 232 rfl rfl
theorem m_714 : (Jvm.Cond.methodLink "BeltRowsLaw" (140 : Nat) ({ cls := "BeltRowsLaw", name := "mean", desc := "(LBeltRows;[J)I" } : Jvm.MethodName)) ∈ TBL := tbl_3 234 rfl rfl
theorem m_715 : (Jvm.Cond.static ({ cls := "BeltRowsLaw", name := "mean", desc := "(LBeltRows;[J)I" } : Jvm.MethodName)) ∈ TBL := tbl_3 235 rfl rfl
theorem m_716 : (Jvm.Cond.codeWith ({ cls := "BeltRowsLaw", name := "mean", desc := "(LBeltRows;[J)I" } : Jvm.MethodName) method_19_code (3 : Nat) (Option.some Jvm.ClassFile.FieldType.int) [((0 : Nat), (8 : Nat), (11 : Nat), (75 : Nat))]) ∈ TBL := tbl_3 236 rfl rfl
theorem m_717 : (Jvm.Cond.classLink "BeltRowsLaw" (75 : Nat) "java/lang/ArithmeticException") ∈ TBL := tbl_3 237 rfl rfl
theorem m_718 : (Jvm.Cond.methodLink "BeltRowsLaw" (71 : Nat) ({ cls := "BeltRows", name := "mean", desc := "()I" } : Jvm.MethodName)) ∈ TBL := tbl_3 238 rfl rfl
theorem m_719 : (Jvm.Cond.instanceMethod ({ cls := "BeltRows", name := "mean", desc := "()I" } : Jvm.MethodName)) ∈ TBL := tbl_3 239 rfl rfl
theorem m_720 : (Jvm.Cond.selects "BeltRows" ({ cls := "BeltRows", name := "mean", desc := "()I" } : Jvm.MethodName) ({ cls := "BeltRows", name := "mean", desc := "()I" } : Jvm.MethodName)) ∈ TBL := tbl_4 0 rfl rfl
theorem m_721 : (Jvm.Cond.code ({ cls := "BeltRows", name := "mean", desc := "()I" } : Jvm.MethodName) prog_1_method_18_code (2 : Nat) (Option.some Jvm.ClassFile.FieldType.int)) ∈ TBL := tbl_4 1 rfl rfl
theorem m_722 : (Jvm.Cond.classLink "BeltRows" (217 : Nat) "java/lang/ArithmeticException") ∈ TBL := tbl_4 2 rfl rfl
theorem m_723 : (Jvm.Cond.instantiable "java/lang/ArithmeticException" (6 : Nat)) ∈ TBL := tbl_4 3 rfl rfl
theorem m_725 : (Jvm.Cond.selects "java/lang/ArithmeticException" ({ cls := "java/lang/Throwable", name := "fillInStackTrace", desc := "(I)Ljava/lang/Throwable;" } : Jvm.MethodName) ({ cls := "java/lang/Throwable", name := "fillInStackTrace", desc := "(I)Ljava/lang/Throwable;" } : Jvm.MethodName)) ∈ TBL := tbl_4 5 rfl rfl
theorem m_726 : (Jvm.Cond.lays "java/lang/ArithmeticException" "java/lang/Throwable" "cause" "Ljava/lang/Throwable;") ∈ TBL := tbl_4 6 rfl rfl
theorem m_727 : (Jvm.Cond.lays "java/lang/ArithmeticException" "java/lang/Throwable" "stackTrace" "[Ljava/lang/StackTraceElement;") ∈ TBL := tbl_4 7 rfl rfl
theorem m_728 : (Jvm.Cond.lays "java/lang/ArithmeticException" "java/lang/Throwable" "suppressedExceptions" "Ljava/util/List;") ∈ TBL := tbl_4 8 rfl rfl
theorem m_729 : (Jvm.Cond.lays "java/lang/ArithmeticException" "java/lang/Throwable" "detailMessage" "Ljava/lang/String;") ∈ TBL := tbl_4 9 rfl rfl
theorem m_730 : (Jvm.Cond.lays "java/lang/ArithmeticException" "java/lang/Throwable" "backtrace" "Ljava/lang/Object;") ∈ TBL := tbl_4 10 rfl rfl
theorem m_732 : (Jvm.Cond.methodLink "BeltRows" (221 : Nat) ({ cls := "java/lang/ArithmeticException", name := "<init>", desc := "(Ljava/lang/String;)V" } : Jvm.MethodName)) ∈ TBL := tbl_4 12 rfl rfl
theorem m_733 : (Jvm.Cond.instanceMethod ({ cls := "java/lang/ArithmeticException", name := "<init>", desc := "(Ljava/lang/String;)V" } : Jvm.MethodName)) ∈ TBL := tbl_4 13 rfl rfl
theorem m_734 : (Jvm.Cond.code ({ cls := "java/lang/ArithmeticException", name := "<init>", desc := "(Ljava/lang/String;)V" } : Jvm.MethodName) prog_10_method_2_code (2 : Nat) (Option.none : Option Jvm.ClassFile.FieldType)) ∈ TBL := tbl_4 14 rfl rfl
theorem m_735 : (Jvm.Cond.methodLink "java/lang/ArithmeticException" (7 : Nat) ({ cls := "java/lang/RuntimeException", name := "<init>", desc := "(Ljava/lang/String;)V" } : Jvm.MethodName)) ∈ TBL := tbl_4 15 rfl rfl
theorem m_736 : (Jvm.Cond.lays "java/lang/ArithmeticException" "java/lang/Throwable" "depth" "I") ∈ TBL := tbl_4 16 rfl rfl
theorem m_738 : (Jvm.Cond.classLink "BeltRowsLaw" (78 : Nat) "BeltRowsModel") ∈ TBL := tbl_4 18 rfl rfl
theorem m_739 : (Jvm.Cond.instantiable "BeltRowsModel" (32 : Nat)) ∈ TBL := tbl_4 19 rfl rfl
theorem m_740 : (Jvm.Cond.methodLink "BeltRowsLaw" (80 : Nat) ({ cls := "BeltRowsModel", name := "<init>", desc := "()V" } : Jvm.MethodName)) ∈ TBL := tbl_4 20 rfl rfl
theorem m_741 : (Jvm.Cond.instanceMethod ({ cls := "BeltRowsModel", name := "<init>", desc := "()V" } : Jvm.MethodName)) ∈ TBL := tbl_4 21 rfl rfl
theorem m_742 : (Jvm.Cond.code ({ cls := "BeltRowsModel", name := "<init>", desc := "()V" } : Jvm.MethodName) prog_8_method_1_code (1 : Nat) (Option.none : Option Jvm.ClassFile.FieldType)) ∈ TBL := tbl_4 22 rfl rfl
theorem m_743 : (Jvm.Cond.methodLink "BeltRowsModel" (1 : Nat) ({ cls := "java/lang/Object", name := "<init>", desc := "()V" } : Jvm.MethodName)) ∈ TBL := tbl_4 23 rfl rfl
theorem m_744 : (Jvm.Cond.fieldLink "BeltRowsModel" (82 : Nat) "BeltRowsModel" "code" "I") ∈ TBL := tbl_4 24 rfl rfl
theorem m_745 : (Jvm.Cond.fieldLink "BeltRowsModel" (115 : Nat) "BeltRowsModel" "time" "I") ∈ TBL := tbl_4 25 rfl rfl
theorem m_746 : (Jvm.Cond.fieldLink "BeltRowsModel" (7 : Nat) "BeltRowsModel" "least" "I") ∈ TBL := tbl_4 26 rfl rfl
theorem m_747 : (Jvm.Cond.fieldLink "BeltRowsModel" (85 : Nat) "BeltRowsModel" "belts" "I") ∈ TBL := tbl_4 27 rfl rfl
theorem m_748 : (Jvm.Cond.fieldLink "BeltRowsModel" (13 : Nat) "BeltRowsModel" "length" "[I") ∈ TBL := tbl_4 28 rfl rfl
theorem m_749 : (Jvm.Cond.fieldLink "BeltRowsModel" (17 : Nat) "BeltRowsModel" "speed" "[I") ∈ TBL := tbl_4 29 rfl rfl
theorem m_750 : (Jvm.Cond.fieldLink "BeltRowsModel" (20 : Nat) "BeltRowsModel" "runs" "[Z") ∈ TBL := tbl_4 30 rfl rfl
theorem m_751 : (Jvm.Cond.fieldLink "BeltRowsModel" (24 : Nat) "BeltRowsModel" "next" "[I") ∈ TBL := tbl_4 31 rfl rfl
theorem m_752 : (Jvm.Cond.fieldLink "BeltRowsModel" (27 : Nat) "BeltRowsModel" "share" "[I") ∈ TBL := tbl_4 32 rfl rfl
theorem m_753 : (Jvm.Cond.fieldLink "BeltRowsModel" (30 : Nat) "BeltRowsModel" "went" "[I") ∈ TBL := tbl_4 33 rfl rfl
theorem m_754 : (Jvm.Cond.fieldLink "BeltRowsModel" (33 : Nat) "BeltRowsModel" "size" "[I") ∈ TBL := tbl_4 34 rfl rfl
theorem m_755 : (Jvm.Cond.fieldLink "BeltRowsModel" (36 : Nat) "BeltRowsModel" "row" "[I") ∈ TBL := tbl_4 35 rfl rfl
theorem m_756 : (Jvm.Cond.fieldLink "BeltRowsModel" (92 : Nat) "BeltRowsModel" "items" "I") ∈ TBL := tbl_4 36 rfl rfl
theorem m_757 : (Jvm.Cond.fieldLink "BeltRowsModel" (39 : Nat) "BeltRowsModel" "state" "[I") ∈ TBL := tbl_4 37 rfl rfl
theorem m_758 : (Jvm.Cond.fieldLink "BeltRowsModel" (42 : Nat) "BeltRowsModel" "belt" "[I") ∈ TBL := tbl_4 38 rfl rfl
theorem m_759 : (Jvm.Cond.fieldLink "BeltRowsModel" (45 : Nat) "BeltRowsModel" "place" "[I") ∈ TBL := tbl_4 39 rfl rfl
theorem m_760 : (Jvm.Cond.fieldLink "BeltRowsModel" (48 : Nat) "BeltRowsModel" "long0" "[I") ∈ TBL := tbl_4 40 rfl rfl
theorem m_761 : (Jvm.Cond.fieldLink "BeltRowsModel" (51 : Nat) "BeltRowsModel" "way" "[I") ∈ TBL := tbl_4 41 rfl rfl
theorem m_762 : (Jvm.Cond.fieldLink "BeltRowsModel" (54 : Nat) "BeltRowsModel" "wayTold" "[Z") ∈ TBL := tbl_4 42 rfl rfl
theorem m_763 : (Jvm.Cond.fieldLink "BeltRowsModel" (57 : Nat) "BeltRowsModel" "expected" "[I") ∈ TBL := tbl_4 43 rfl rfl
theorem m_764 : (Jvm.Cond.fieldLink "BeltRowsModel" (60 : Nat) "BeltRowsModel" "put" "[I") ∈ TBL := tbl_4 44 rfl rfl
theorem m_765 : (Jvm.Cond.fieldLink "BeltRowsModel" (99 : Nat) "BeltRowsModel" "scanners" "I") ∈ TBL := tbl_4 45 rfl rfl
theorem m_766 : (Jvm.Cond.fieldLink "BeltRowsModel" (63 : Nat) "BeltRowsModel" "scanBelt" "[I") ∈ TBL := tbl_4 46 rfl rfl
theorem m_767 : (Jvm.Cond.fieldLink "BeltRowsModel" (66 : Nat) "BeltRowsModel" "scanPlace" "[I") ∈ TBL := tbl_4 47 rfl rfl
theorem m_768 : (Jvm.Cond.fieldLink "BeltRowsModel" (69 : Nat) "BeltRowsModel" "delay" "[I") ∈ TBL := tbl_4 48 rfl rfl
theorem m_769 : (Jvm.Cond.fieldLink "BeltRowsModel" (128 : Nat) "BeltRowsModel" "waiting" "I") ∈ TBL := tbl_4 49 rfl rfl
theorem m_770 : (Jvm.Cond.fieldLink "BeltRowsModel" (72 : Nat) "BeltRowsModel" "waits" "[J") ∈ TBL := tbl_4 50 rfl rfl
theorem m_771 : (Jvm.Cond.fieldLink "BeltRowsModel" (125 : Nat) "BeltRowsModel" "edges" "I") ∈ TBL := tbl_4 51 rfl rfl
theorem m_772 : (Jvm.Cond.fieldLink "BeltRowsModel" (76 : Nat) "BeltRowsModel" "told" "[J") ∈ TBL := tbl_4 52 rfl rfl
theorem m_773 : (Jvm.Cond.fieldLink "BeltRowsModel" (147 : Nat) "BeltRowsModel" "outs" "I") ∈ TBL := tbl_4 53 rfl rfl
theorem m_774 : (Jvm.Cond.fieldLink "BeltRowsModel" (150 : Nat) "BeltRowsModel" "seconds" "I") ∈ TBL := tbl_4 54 rfl rfl
theorem m_775 : (Jvm.Cond.fieldLink "BeltRowsModel" (79 : Nat) "BeltRowsModel" "outRow" "[I") ∈ TBL := tbl_4 55 rfl rfl
theorem m_776 : (Jvm.Cond.lays "BeltRowsModel" "BeltRowsModel" "code" "I") ∈ TBL := tbl_4 56 rfl rfl
theorem m_778 : (Jvm.Cond.lays "BeltRowsModel" "BeltRowsModel" "time" "I") ∈ TBL := tbl_4 58 rfl rfl
theorem m_780 : (Jvm.Cond.lays "BeltRowsModel" "BeltRowsModel" "least" "I") ∈ TBL := tbl_4 60 rfl rfl
theorem m_782 : (Jvm.Cond.lays "BeltRowsModel" "BeltRowsModel" "belts" "I") ∈ TBL := tbl_4 62 rfl rfl
theorem m_784 : (Jvm.Cond.laysFinal "BeltRowsModel" "BeltRowsModel" "length" "[I") ∈ TBL := tbl_4 64 rfl rfl
theorem m_786 : (Jvm.Cond.laysFinal "BeltRowsModel" "BeltRowsModel" "speed" "[I") ∈ TBL := tbl_4 66 rfl rfl
theorem m_788 : (Jvm.Cond.laysFinal "BeltRowsModel" "BeltRowsModel" "runs" "[Z") ∈ TBL := tbl_4 68 rfl rfl
theorem m_790 : (Jvm.Cond.laysFinal "BeltRowsModel" "BeltRowsModel" "next" "[I") ∈ TBL := tbl_4 70 rfl rfl
theorem m_792 : (Jvm.Cond.laysFinal "BeltRowsModel" "BeltRowsModel" "share" "[I") ∈ TBL := tbl_4 72 rfl rfl
theorem m_794 : (Jvm.Cond.laysFinal "BeltRowsModel" "BeltRowsModel" "went" "[I") ∈ TBL := tbl_4 74 rfl rfl
theorem m_796 : (Jvm.Cond.laysFinal "BeltRowsModel" "BeltRowsModel" "size" "[I") ∈ TBL := tbl_4 76 rfl rfl
theorem m_798 : (Jvm.Cond.laysFinal "BeltRowsModel" "BeltRowsModel" "row" "[I") ∈ TBL := tbl_4 78 rfl rfl
theorem m_800 : (Jvm.Cond.lays "BeltRowsModel" "BeltRowsModel" "items" "I") ∈ TBL := tbl_4 80 rfl rfl
theorem m_802 : (Jvm.Cond.laysFinal "BeltRowsModel" "BeltRowsModel" "state" "[I") ∈ TBL := tbl_4 82 rfl rfl
theorem m_804 : (Jvm.Cond.laysFinal "BeltRowsModel" "BeltRowsModel" "belt" "[I") ∈ TBL := tbl_4 84 rfl rfl
theorem m_806 : (Jvm.Cond.laysFinal "BeltRowsModel" "BeltRowsModel" "place" "[I") ∈ TBL := tbl_4 86 rfl rfl
theorem m_808 : (Jvm.Cond.laysFinal "BeltRowsModel" "BeltRowsModel" "long0" "[I") ∈ TBL := tbl_4 88 rfl rfl
theorem m_810 : (Jvm.Cond.laysFinal "BeltRowsModel" "BeltRowsModel" "way" "[I") ∈ TBL := tbl_4 90 rfl rfl
theorem m_812 : (Jvm.Cond.laysFinal "BeltRowsModel" "BeltRowsModel" "wayTold" "[Z") ∈ TBL := tbl_4 92 rfl rfl
theorem m_814 : (Jvm.Cond.laysFinal "BeltRowsModel" "BeltRowsModel" "expected" "[I") ∈ TBL := tbl_4 94 rfl rfl
theorem m_816 : (Jvm.Cond.laysFinal "BeltRowsModel" "BeltRowsModel" "put" "[I") ∈ TBL := tbl_4 96 rfl rfl
theorem m_818 : (Jvm.Cond.lays "BeltRowsModel" "BeltRowsModel" "scanners" "I") ∈ TBL := tbl_4 98 rfl rfl
theorem m_820 : (Jvm.Cond.laysFinal "BeltRowsModel" "BeltRowsModel" "scanBelt" "[I") ∈ TBL := tbl_4 100 rfl rfl
theorem m_822 : (Jvm.Cond.laysFinal "BeltRowsModel" "BeltRowsModel" "scanPlace" "[I") ∈ TBL := tbl_4 102 rfl rfl
theorem m_824 : (Jvm.Cond.laysFinal "BeltRowsModel" "BeltRowsModel" "delay" "[I") ∈ TBL := tbl_4 104 rfl rfl
theorem m_826 : (Jvm.Cond.lays "BeltRowsModel" "BeltRowsModel" "waiting" "I") ∈ TBL := tbl_4 106 rfl rfl
theorem m_828 : (Jvm.Cond.laysFinal "BeltRowsModel" "BeltRowsModel" "waits" "[J") ∈ TBL := tbl_4 108 rfl rfl
theorem m_830 : (Jvm.Cond.lays "BeltRowsModel" "BeltRowsModel" "edges" "I") ∈ TBL := tbl_4 110 rfl rfl
theorem m_832 : (Jvm.Cond.laysFinal "BeltRowsModel" "BeltRowsModel" "told" "[J") ∈ TBL := tbl_4 112 rfl rfl
theorem m_834 : (Jvm.Cond.lays "BeltRowsModel" "BeltRowsModel" "outs" "I") ∈ TBL := tbl_4 114 rfl rfl
theorem m_836 : (Jvm.Cond.lays "BeltRowsModel" "BeltRowsModel" "seconds" "I") ∈ TBL := tbl_4 116 rfl rfl
theorem m_838 : (Jvm.Cond.laysFinal "BeltRowsModel" "BeltRowsModel" "outRow" "[I") ∈ TBL := tbl_4 118 rfl rfl
theorem m_841 : (Jvm.Cond.arrayClass Jvm.ClassFile.FieldType.int) ∈ TBL := tbl_4 121 rfl rfl
theorem m_842 : (Jvm.Cond.arrayClass Jvm.ClassFile.FieldType.boolean) ∈ TBL := tbl_4 122 rfl rfl
theorem m_843 : (Jvm.Cond.arrayClass Jvm.ClassFile.FieldType.long) ∈ TBL := tbl_4 123 rfl rfl
theorem m_844 : (Jvm.Cond.methodLink "BeltRowsLaw" (87 : Nat) ({ cls := "BeltRowsModel", name := "thrown", desc := "()I" } : Jvm.MethodName)) ∈ TBL := tbl_4 124 rfl rfl
theorem m_845 : (Jvm.Cond.instanceMethod ({ cls := "BeltRowsModel", name := "thrown", desc := "()I" } : Jvm.MethodName)) ∈ TBL := tbl_4 125 rfl rfl
theorem m_846 : (Jvm.Cond.selects "BeltRowsModel" ({ cls := "BeltRowsModel", name := "thrown", desc := "()I" } : Jvm.MethodName) ({ cls := "BeltRowsModel", name := "thrown", desc := "()I" } : Jvm.MethodName)) ∈ TBL := tbl_4 126 rfl rfl
theorem m_847 : (Jvm.Cond.code ({ cls := "BeltRowsModel", name := "thrown", desc := "()I" } : Jvm.MethodName) prog_8_method_2_code (1 : Nat) (Option.some Jvm.ClassFile.FieldType.int)) ∈ TBL := tbl_4 127 rfl rfl
theorem m_848 : (Jvm.Cond.methodLink "BeltRowsLaw" (86 : Nat) ({ cls := "BeltRowsModel", name := "belt", desc := "(II)I" } : Jvm.MethodName)) ∈ TBL := tbl_4 128 rfl rfl
theorem m_849 : (Jvm.Cond.instanceMethod ({ cls := "BeltRowsModel", name := "belt", desc := "(II)I" } : Jvm.MethodName)) ∈ TBL := tbl_4 129 rfl rfl
theorem m_850 : (Jvm.Cond.selects "BeltRowsModel" ({ cls := "BeltRowsModel", name := "belt", desc := "(II)I" } : Jvm.MethodName) ({ cls := "BeltRowsModel", name := "belt", desc := "(II)I" } : Jvm.MethodName)) ∈ TBL := tbl_4 130 rfl rfl
theorem m_851 : (Jvm.Cond.code ({ cls := "BeltRowsModel", name := "belt", desc := "(II)I" } : Jvm.MethodName) prog_8_method_6_code (3 : Nat) (Option.some Jvm.ClassFile.FieldType.int)) ∈ TBL := tbl_4 131 rfl rfl
theorem m_852 : (Jvm.Cond.methodLink "BeltRowsModel" (88 : Nat) ({ cls := "BeltRowsModel", name := "in", desc := "(III)Z" } : Jvm.MethodName)) ∈ TBL := tbl_4 132 rfl rfl
theorem m_853 : (Jvm.Cond.static ({ cls := "BeltRowsModel", name := "in", desc := "(III)Z" } : Jvm.MethodName)) ∈ TBL := tbl_4 133 rfl rfl
theorem m_854 : (Jvm.Cond.code ({ cls := "BeltRowsModel", name := "in", desc := "(III)Z" } : Jvm.MethodName) prog_8_method_3_code (3 : Nat) (Option.some Jvm.ClassFile.FieldType.boolean)) ∈ TBL := tbl_4 134 rfl rfl
theorem m_855 : (Jvm.Cond.methodLink "BeltRowsLaw" (93 : Nat) ({ cls := "BeltRowsModel", name := "join", desc := "(IIII)I" } : Jvm.MethodName)) ∈ TBL := tbl_4 135 rfl rfl
theorem m_856 : (Jvm.Cond.instanceMethod ({ cls := "BeltRowsModel", name := "join", desc := "(IIII)I" } : Jvm.MethodName)) ∈ TBL := tbl_4 136 rfl rfl
theorem m_857 : (Jvm.Cond.selects "BeltRowsModel" ({ cls := "BeltRowsModel", name := "join", desc := "(IIII)I" } : Jvm.MethodName) ({ cls := "BeltRowsModel", name := "join", desc := "(IIII)I" } : Jvm.MethodName)) ∈ TBL := tbl_4 137 rfl rfl
theorem m_858 : (Jvm.Cond.code ({ cls := "BeltRowsModel", name := "join", desc := "(IIII)I" } : Jvm.MethodName) prog_8_method_7_code (7 : Nat) (Option.some Jvm.ClassFile.FieldType.int)) ∈ TBL := tbl_4 138 rfl rfl
theorem m_859 : (Jvm.Cond.methodLink "BeltRowsModel" (95 : Nat) ({ cls := "BeltRowsModel", name := "isBelt", desc := "(I)Z" } : Jvm.MethodName)) ∈ TBL := tbl_4 139 rfl rfl
theorem m_861 : (Jvm.Cond.instanceMethod ({ cls := "BeltRowsModel", name := "isBelt", desc := "(I)Z" } : Jvm.MethodName)) ∈ TBL := tbl_4 141 rfl rfl
theorem m_862 : (Jvm.Cond.code ({ cls := "BeltRowsModel", name := "isBelt", desc := "(I)Z" } : Jvm.MethodName) prog_8_method_4_code (2 : Nat) (Option.some Jvm.ClassFile.FieldType.boolean)) ∈ TBL := tbl_4 142 rfl rfl
theorem m_863 : (Jvm.Cond.methodLink "BeltRowsLaw" (97 : Nat) ({ cls := "BeltRowsModel", name := "run", desc := "(IIZ)V" } : Jvm.MethodName)) ∈ TBL := tbl_4 143 rfl rfl
theorem m_864 : (Jvm.Cond.instanceMethod ({ cls := "BeltRowsModel", name := "run", desc := "(IIZ)V" } : Jvm.MethodName)) ∈ TBL := tbl_4 144 rfl rfl
theorem m_865 : (Jvm.Cond.selects "BeltRowsModel" ({ cls := "BeltRowsModel", name := "run", desc := "(IIZ)V" } : Jvm.MethodName) ({ cls := "BeltRowsModel", name := "run", desc := "(IIZ)V" } : Jvm.MethodName)) ∈ TBL := tbl_4 145 rfl rfl
theorem m_866 : (Jvm.Cond.code ({ cls := "BeltRowsModel", name := "run", desc := "(IIZ)V" } : Jvm.MethodName) prog_8_method_8_code (4 : Nat) (Option.none : Option Jvm.ClassFile.FieldType)) ∈ TBL := tbl_4 146 rfl rfl
theorem m_867 : (Jvm.Cond.methodLink "BeltRowsLaw" (101 : Nat) ({ cls := "BeltRowsModel", name := "gaps", desc := "(I)V" } : Jvm.MethodName)) ∈ TBL := tbl_4 147 rfl rfl
theorem m_868 : (Jvm.Cond.instanceMethod ({ cls := "BeltRowsModel", name := "gaps", desc := "(I)V" } : Jvm.MethodName)) ∈ TBL := tbl_4 148 rfl rfl
theorem m_869 : (Jvm.Cond.selects "BeltRowsModel" ({ cls := "BeltRowsModel", name := "gaps", desc := "(I)V" } : Jvm.MethodName) ({ cls := "BeltRowsModel", name := "gaps", desc := "(I)V" } : Jvm.MethodName)) ∈ TBL := tbl_4 149 rfl rfl
theorem m_870 : (Jvm.Cond.code ({ cls := "BeltRowsModel", name := "gaps", desc := "(I)V" } : Jvm.MethodName) prog_8_method_9_code (2 : Nat) (Option.none : Option Jvm.ClassFile.FieldType)) ∈ TBL := tbl_4 150 rfl rfl
theorem m_871 : (Jvm.Cond.methodLink "BeltRowsLaw" (105 : Nat) ({ cls := "BeltRowsModel", name := "scanner", desc := "(III)I" } : Jvm.MethodName)) ∈ TBL := tbl_4 151 rfl rfl
theorem m_872 : (Jvm.Cond.instanceMethod ({ cls := "BeltRowsModel", name := "scanner", desc := "(III)I" } : Jvm.MethodName)) ∈ TBL := tbl_4 152 rfl rfl
theorem m_873 : (Jvm.Cond.selects "BeltRowsModel" ({ cls := "BeltRowsModel", name := "scanner", desc := "(III)I" } : Jvm.MethodName) ({ cls := "BeltRowsModel", name := "scanner", desc := "(III)I" } : Jvm.MethodName)) ∈ TBL := tbl_4 153 rfl rfl
theorem m_874 : (Jvm.Cond.code ({ cls := "BeltRowsModel", name := "scanner", desc := "(III)I" } : Jvm.MethodName) prog_8_method_10_code (4 : Nat) (Option.some Jvm.ClassFile.FieldType.int)) ∈ TBL := tbl_4 154 rfl rfl
theorem m_875 : (Jvm.Cond.methodLink "BeltRowsLaw" (108 : Nat) ({ cls := "BeltRowsModel", name := "item", desc := "(II)I" } : Jvm.MethodName)) ∈ TBL := tbl_4 155 rfl rfl
theorem m_876 : (Jvm.Cond.instanceMethod ({ cls := "BeltRowsModel", name := "item", desc := "(II)I" } : Jvm.MethodName)) ∈ TBL := tbl_4 156 rfl rfl
theorem m_877 : (Jvm.Cond.selects "BeltRowsModel" ({ cls := "BeltRowsModel", name := "item", desc := "(II)I" } : Jvm.MethodName) ({ cls := "BeltRowsModel", name := "item", desc := "(II)I" } : Jvm.MethodName)) ∈ TBL := tbl_4 157 rfl rfl
theorem m_878 : (Jvm.Cond.code ({ cls := "BeltRowsModel", name := "item", desc := "(II)I" } : Jvm.MethodName) prog_8_method_17_code (3 : Nat) (Option.some Jvm.ClassFile.FieldType.int)) ∈ TBL := tbl_4 158 rfl rfl
theorem m_879 : (Jvm.Cond.methodLink "BeltRowsModel" (112 : Nat) ({ cls := "BeltRowsModel", name := "missing", desc := "(I)I" } : Jvm.MethodName)) ∈ TBL := tbl_4 159 rfl rfl
theorem m_881 : (Jvm.Cond.instanceMethod ({ cls := "BeltRowsModel", name := "missing", desc := "(I)I" } : Jvm.MethodName)) ∈ TBL := tbl_4 161 rfl rfl
theorem m_882 : (Jvm.Cond.code ({ cls := "BeltRowsModel", name := "missing", desc := "(I)I" } : Jvm.MethodName) prog_8_method_13_code (2 : Nat) (Option.some Jvm.ClassFile.FieldType.int)) ∈ TBL := tbl_4 162 rfl rfl
theorem m_883 : (Jvm.Cond.methodLink "BeltRowsModel" (102 : Nat) ({ cls := "BeltRowsModel", name := "last", desc := "(I)I" } : Jvm.MethodName)) ∈ TBL := tbl_4 163 rfl rfl
theorem m_885 : (Jvm.Cond.instanceMethod ({ cls := "BeltRowsModel", name := "last", desc := "(I)I" } : Jvm.MethodName)) ∈ TBL := tbl_4 165 rfl rfl
theorem m_886 : (Jvm.Cond.code ({ cls := "BeltRowsModel", name := "last", desc := "(I)I" } : Jvm.MethodName) prog_8_method_11_code (2 : Nat) (Option.some Jvm.ClassFile.FieldType.int)) ∈ TBL := tbl_4 166 rfl rfl
theorem m_887 : (Jvm.Cond.methodLink "BeltRowsModel" (106 : Nat) ({ cls := "BeltRowsModel", name := "rear", desc := "(I)I" } : Jvm.MethodName)) ∈ TBL := tbl_4 167 rfl rfl
theorem m_889 : (Jvm.Cond.instanceMethod ({ cls := "BeltRowsModel", name := "rear", desc := "(I)I" } : Jvm.MethodName)) ∈ TBL := tbl_4 169 rfl rfl
theorem m_890 : (Jvm.Cond.code ({ cls := "BeltRowsModel", name := "rear", desc := "(I)I" } : Jvm.MethodName) prog_8_method_12_code (2 : Nat) (Option.some Jvm.ClassFile.FieldType.int)) ∈ TBL := tbl_4 170 rfl rfl
theorem m_891 : (Jvm.Cond.methodLink "BeltRowsModel" (118 : Nat) ({ cls := "BeltRowsModel", name := "come", desc := "(II)V" } : Jvm.MethodName)) ∈ TBL := tbl_4 171 rfl rfl
theorem m_893 : (Jvm.Cond.instanceMethod ({ cls := "BeltRowsModel", name := "come", desc := "(II)V" } : Jvm.MethodName)) ∈ TBL := tbl_4 173 rfl rfl
theorem m_894 : (Jvm.Cond.code ({ cls := "BeltRowsModel", name := "come", desc := "(II)V" } : Jvm.MethodName) prog_8_method_14_code (3 : Nat) (Option.none : Option Jvm.ClassFile.FieldType)) ∈ TBL := tbl_4 174 rfl rfl
theorem m_895 : (Jvm.Cond.methodLink "BeltRowsLaw" (111 : Nat) ({ cls := "BeltRowsModel", name := "divert", desc := "(II)I" } : Jvm.MethodName)) ∈ TBL := tbl_4 175 rfl rfl
theorem m_896 : (Jvm.Cond.instanceMethod ({ cls := "BeltRowsModel", name := "divert", desc := "(II)I" } : Jvm.MethodName)) ∈ TBL := tbl_4 176 rfl rfl
theorem m_897 : (Jvm.Cond.selects "BeltRowsModel" ({ cls := "BeltRowsModel", name := "divert", desc := "(II)I" } : Jvm.MethodName) ({ cls := "BeltRowsModel", name := "divert", desc := "(II)I" } : Jvm.MethodName)) ∈ TBL := tbl_4 177 rfl rfl
theorem m_898 : (Jvm.Cond.code ({ cls := "BeltRowsModel", name := "divert", desc := "(II)I" } : Jvm.MethodName) prog_8_method_18_code (4 : Nat) (Option.some Jvm.ClassFile.FieldType.int)) ∈ TBL := tbl_4 178 rfl rfl
theorem m_899 : (Jvm.Cond.methodLink "BeltRowsModel" (122 : Nat) ({ cls := "BeltRowsModel", name := "isItem", desc := "(I)Z" } : Jvm.MethodName)) ∈ TBL := tbl_4 179 rfl rfl
theorem m_901 : (Jvm.Cond.instanceMethod ({ cls := "BeltRowsModel", name := "isItem", desc := "(I)Z" } : Jvm.MethodName)) ∈ TBL := tbl_4 181 rfl rfl
theorem m_902 : (Jvm.Cond.code ({ cls := "BeltRowsModel", name := "isItem", desc := "(I)Z" } : Jvm.MethodName) prog_8_method_5_code (2 : Nat) (Option.some Jvm.ClassFile.FieldType.boolean)) ∈ TBL := tbl_4 182 rfl rfl
theorem m_903 : (Jvm.Cond.methodLink "BeltRowsLaw" (115 : Nat) ({ cls := "BeltRowsModel", name := "step", desc := "(I)I" } : Jvm.MethodName)) ∈ TBL := tbl_4 183 rfl rfl
theorem m_904 : (Jvm.Cond.instanceMethod ({ cls := "BeltRowsModel", name := "step", desc := "(I)I" } : Jvm.MethodName)) ∈ TBL := tbl_4 184 rfl rfl
theorem m_905 : (Jvm.Cond.selects "BeltRowsModel" ({ cls := "BeltRowsModel", name := "step", desc := "(I)I" } : Jvm.MethodName) ({ cls := "BeltRowsModel", name := "step", desc := "(I)I" } : Jvm.MethodName)) ∈ TBL := tbl_4 185 rfl rfl
theorem m_906 : (Jvm.Cond.code ({ cls := "BeltRowsModel", name := "step", desc := "(I)I" } : Jvm.MethodName) prog_8_method_25_code (5 : Nat) (Option.some Jvm.ClassFile.FieldType.int)) ∈ TBL := tbl_4 186 rfl rfl
theorem m_907 : (Jvm.Cond.methodLink "BeltRowsModel" (153 : Nat) ({ cls := "BeltRowsModel", name := "readDue", desc := "()V" } : Jvm.MethodName)) ∈ TBL := tbl_4 187 rfl rfl
theorem m_909 : (Jvm.Cond.instanceMethod ({ cls := "BeltRowsModel", name := "readDue", desc := "()V" } : Jvm.MethodName)) ∈ TBL := tbl_4 189 rfl rfl
theorem m_910 : (Jvm.Cond.code ({ cls := "BeltRowsModel", name := "readDue", desc := "()V" } : Jvm.MethodName) prog_8_method_20_code (3 : Nat) (Option.none : Option Jvm.ClassFile.FieldType)) ∈ TBL := tbl_4 190 rfl rfl
theorem m_911 : (Jvm.Cond.constantLong "BeltRowsModel" (131 : Nat) (255 : Int64)) ∈ TBL := tbl_4 191 rfl rfl
theorem m_912 : (Jvm.Cond.methodLink "BeltRowsModel" (133 : Nat) ({ cls := "BeltRowsModel", name := "tell", desc := "(III)V" } : Jvm.MethodName)) ∈ TBL := tbl_4 192 rfl rfl
theorem m_914 : (Jvm.Cond.instanceMethod ({ cls := "BeltRowsModel", name := "tell", desc := "(III)V" } : Jvm.MethodName)) ∈ TBL := tbl_4 194 rfl rfl
theorem m_915 : (Jvm.Cond.code ({ cls := "BeltRowsModel", name := "tell", desc := "(III)V" } : Jvm.MethodName) prog_8_method_19_code (4 : Nat) (Option.none : Option Jvm.ClassFile.FieldType)) ∈ TBL := tbl_4 195 rfl rfl
theorem m_916 : (Jvm.Cond.methodLink "BeltRowsModel" (156 : Nat) ({ cls := "BeltRowsModel", name := "exchange", desc := "(I)V" } : Jvm.MethodName)) ∈ TBL := tbl_4 196 rfl rfl
theorem m_918 : (Jvm.Cond.instanceMethod ({ cls := "BeltRowsModel", name := "exchange", desc := "(I)V" } : Jvm.MethodName)) ∈ TBL := tbl_4 198 rfl rfl
theorem m_919 : (Jvm.Cond.code ({ cls := "BeltRowsModel", name := "exchange", desc := "(I)V" } : Jvm.MethodName) prog_8_method_23_code (7 : Nat) (Option.none : Option Jvm.ClassFile.FieldType)) ∈ TBL := tbl_4 199 rfl rfl
theorem m_920 : (Jvm.Cond.methodLink "BeltRowsModel" (137 : Nat) ({ cls := "BeltRowsModel", name := "atEnd", desc := "(I)I" } : Jvm.MethodName)) ∈ TBL := tbl_4 200 rfl rfl
theorem m_922 : (Jvm.Cond.instanceMethod ({ cls := "BeltRowsModel", name := "atEnd", desc := "(I)I" } : Jvm.MethodName)) ∈ TBL := tbl_4 202 rfl rfl
theorem m_923 : (Jvm.Cond.code ({ cls := "BeltRowsModel", name := "atEnd", desc := "(I)I" } : Jvm.MethodName) prog_8_method_21_code (3 : Nat) (Option.some Jvm.ClassFile.FieldType.int)) ∈ TBL := tbl_4 203 rfl rfl
theorem m_924 : (Jvm.Cond.methodLink "BeltRowsModel" (140 : Nat) ({ cls := "BeltRowsModel", name := "goesBy", desc := "(I)I" } : Jvm.MethodName)) ∈ TBL := tbl_4 204 rfl rfl
theorem m_926 : (Jvm.Cond.instanceMethod ({ cls := "BeltRowsModel", name := "goesBy", desc := "(I)I" } : Jvm.MethodName)) ∈ TBL := tbl_4 206 rfl rfl
theorem m_927 : (Jvm.Cond.code ({ cls := "BeltRowsModel", name := "goesBy", desc := "(I)I" } : Jvm.MethodName) prog_8_method_22_code (2 : Nat) (Option.some Jvm.ClassFile.FieldType.int)) ∈ TBL := tbl_4 207 rfl rfl
theorem m_928 : (Jvm.Cond.methodLink "BeltRowsModel" (143 : Nat) ({ cls := "BeltRowsModel", name := "leave", desc := "(I)V" } : Jvm.MethodName)) ∈ TBL := tbl_4 208 rfl rfl
theorem m_930 : (Jvm.Cond.instanceMethod ({ cls := "BeltRowsModel", name := "leave", desc := "(I)V" } : Jvm.MethodName)) ∈ TBL := tbl_4 210 rfl rfl
theorem m_931 : (Jvm.Cond.code ({ cls := "BeltRowsModel", name := "leave", desc := "(I)V" } : Jvm.MethodName) prog_8_method_16_code (5 : Nat) (Option.none : Option Jvm.ClassFile.FieldType)) ∈ TBL := tbl_4 211 rfl rfl
theorem m_932 : (Jvm.Cond.methodLink "BeltRowsModel" (109 : Nat) ({ cls := "BeltRowsModel", name := "indexOf", desc := "(I)I" } : Jvm.MethodName)) ∈ TBL := tbl_4 212 rfl rfl
theorem m_934 : (Jvm.Cond.instanceMethod ({ cls := "BeltRowsModel", name := "indexOf", desc := "(I)I" } : Jvm.MethodName)) ∈ TBL := tbl_4 214 rfl rfl
theorem m_935 : (Jvm.Cond.code ({ cls := "BeltRowsModel", name := "indexOf", desc := "(I)I" } : Jvm.MethodName) prog_8_method_15_code (3 : Nat) (Option.some Jvm.ClassFile.FieldType.int)) ∈ TBL := tbl_4 215 rfl rfl
theorem m_936 : (Jvm.Cond.methodLink "BeltRowsModel" (159 : Nat) ({ cls := "BeltRowsModel", name := "move", desc := "(I)V" } : Jvm.MethodName)) ∈ TBL := tbl_4 216 rfl rfl
theorem m_938 : (Jvm.Cond.instanceMethod ({ cls := "BeltRowsModel", name := "move", desc := "(I)V" } : Jvm.MethodName)) ∈ TBL := tbl_4 218 rfl rfl
theorem m_939 : (Jvm.Cond.code ({ cls := "BeltRowsModel", name := "move", desc := "(I)V" } : Jvm.MethodName) prog_8_method_24_code (7 : Nat) (Option.none : Option Jvm.ClassFile.FieldType)) ∈ TBL := tbl_4 219 rfl rfl
theorem m_940 : (Jvm.Cond.methodLink "BeltRowsLaw" (118 : Nat) ({ cls := "BeltRowsModel", name := "edge", desc := "(II)I" } : Jvm.MethodName)) ∈ TBL := tbl_4 220 rfl rfl
theorem m_941 : (Jvm.Cond.instanceMethod ({ cls := "BeltRowsModel", name := "edge", desc := "(II)I" } : Jvm.MethodName)) ∈ TBL := tbl_4 221 rfl rfl
theorem m_942 : (Jvm.Cond.selects "BeltRowsModel" ({ cls := "BeltRowsModel", name := "edge", desc := "(II)I" } : Jvm.MethodName) ({ cls := "BeltRowsModel", name := "edge", desc := "(II)I" } : Jvm.MethodName)) ∈ TBL := tbl_4 222 rfl rfl
theorem m_943 : (Jvm.Cond.code ({ cls := "BeltRowsModel", name := "edge", desc := "(II)I" } : Jvm.MethodName) prog_8_method_26_code (3 : Nat) (Option.some Jvm.ClassFile.FieldType.int)) ∈ TBL := tbl_4 223 rfl rfl
theorem m_944 : (Jvm.Cond.constantLong "BeltRowsModel" (162 : Nat) (65535 : Int64)) ∈ TBL := tbl_4 224 rfl rfl
theorem m_945 : (Jvm.Cond.methodLink "BeltRowsLaw" (121 : Nat) ({ cls := "BeltRowsModel", name := "slip", desc := "(II)I" } : Jvm.MethodName)) ∈ TBL := tbl_4 225 rfl rfl
theorem m_946 : (Jvm.Cond.instanceMethod ({ cls := "BeltRowsModel", name := "slip", desc := "(II)I" } : Jvm.MethodName)) ∈ TBL := tbl_4 226 rfl rfl
theorem m_947 : (Jvm.Cond.selects "BeltRowsModel" ({ cls := "BeltRowsModel", name := "slip", desc := "(II)I" } : Jvm.MethodName) ({ cls := "BeltRowsModel", name := "slip", desc := "(II)I" } : Jvm.MethodName)) ∈ TBL := tbl_4 227 rfl rfl
theorem m_948 : (Jvm.Cond.code ({ cls := "BeltRowsModel", name := "slip", desc := "(II)I" } : Jvm.MethodName) prog_8_method_27_code (4 : Nat) (Option.some Jvm.ClassFile.FieldType.int)) ∈ TBL := tbl_4 228 rfl rfl
theorem m_949 : (Jvm.Cond.methodLink "BeltRowsLaw" (124 : Nat) ({ cls := "BeltRowsModel", name := "take", desc := "(I)V" } : Jvm.MethodName)) ∈ TBL := tbl_4 229 rfl rfl
theorem m_950 : (Jvm.Cond.instanceMethod ({ cls := "BeltRowsModel", name := "take", desc := "(I)V" } : Jvm.MethodName)) ∈ TBL := tbl_4 230 rfl rfl
theorem m_951 : (Jvm.Cond.selects "BeltRowsModel" ({ cls := "BeltRowsModel", name := "take", desc := "(I)V" } : Jvm.MethodName) ({ cls := "BeltRowsModel", name := "take", desc := "(I)V" } : Jvm.MethodName)) ∈ TBL := tbl_4 231 rfl rfl
theorem m_952 : (Jvm.Cond.code ({ cls := "BeltRowsModel", name := "take", desc := "(I)V" } : Jvm.MethodName) prog_8_method_28_code (2 : Nat) (Option.none : Option Jvm.ClassFile.FieldType)) ∈ TBL := tbl_4 232 rfl rfl
theorem m_953 : (Jvm.Cond.methodLink "BeltRowsLaw" (127 : Nat) ({ cls := "BeltRowsModel", name := "clean", desc := "(I)I" } : Jvm.MethodName)) ∈ TBL := tbl_4 233 rfl rfl
theorem m_954 : (Jvm.Cond.instanceMethod ({ cls := "BeltRowsModel", name := "clean", desc := "(I)I" } : Jvm.MethodName)) ∈ TBL := tbl_4 234 rfl rfl
theorem m_955 : (Jvm.Cond.selects "BeltRowsModel" ({ cls := "BeltRowsModel", name := "clean", desc := "(I)I" } : Jvm.MethodName) ({ cls := "BeltRowsModel", name := "clean", desc := "(I)I" } : Jvm.MethodName)) ∈ TBL := tbl_4 235 rfl rfl
theorem m_956 : (Jvm.Cond.code ({ cls := "BeltRowsModel", name := "clean", desc := "(I)I" } : Jvm.MethodName) prog_8_method_29_code (4 : Nat) (Option.some Jvm.ClassFile.FieldType.int)) ∈ TBL := tbl_4 236 rfl rfl
theorem m_957 : (Jvm.Cond.methodLink "BeltRowsLaw" (130 : Nat) ({ cls := "BeltRowsModel", name := "gap", desc := "(II)I" } : Jvm.MethodName)) ∈ TBL := tbl_4 237 rfl rfl
theorem m_958 : (Jvm.Cond.instanceMethod ({ cls := "BeltRowsModel", name := "gap", desc := "(II)I" } : Jvm.MethodName)) ∈ TBL := tbl_4 238 rfl rfl
theorem m_959 : (Jvm.Cond.selects "BeltRowsModel" ({ cls := "BeltRowsModel", name := "gap", desc := "(II)I" } : Jvm.MethodName) ({ cls := "BeltRowsModel", name := "gap", desc := "(II)I" } : Jvm.MethodName)) ∈ TBL := tbl_4 239 rfl rfl
theorem m_960 : (Jvm.Cond.code ({ cls := "BeltRowsModel", name := "gap", desc := "(II)I" } : Jvm.MethodName) prog_8_method_30_code (3 : Nat) (Option.some Jvm.ClassFile.FieldType.int)) ∈ TBL := tbl_5 0 rfl rfl
theorem m_961 : (Jvm.Cond.methodLink "BeltRowsLaw" (133 : Nat) ({ cls := "BeltRowsModel", name := "told", desc := "(II)I" } : Jvm.MethodName)) ∈ TBL := tbl_5 1 rfl rfl
theorem m_962 : (Jvm.Cond.instanceMethod ({ cls := "BeltRowsModel", name := "told", desc := "(II)I" } : Jvm.MethodName)) ∈ TBL := tbl_5 2 rfl rfl
theorem m_963 : (Jvm.Cond.selects "BeltRowsModel" ({ cls := "BeltRowsModel", name := "told", desc := "(II)I" } : Jvm.MethodName) ({ cls := "BeltRowsModel", name := "told", desc := "(II)I" } : Jvm.MethodName)) ∈ TBL := tbl_5 3 rfl rfl
theorem m_964 : (Jvm.Cond.code ({ cls := "BeltRowsModel", name := "told", desc := "(II)I" } : Jvm.MethodName) prog_8_method_31_code (3 : Nat) (Option.some Jvm.ClassFile.FieldType.int)) ∈ TBL := tbl_5 4 rfl rfl
theorem m_965 : (Jvm.Cond.methodLink "BeltRowsLaw" (136 : Nat) ({ cls := "BeltRowsModel", name := "known", desc := "(II)I" } : Jvm.MethodName)) ∈ TBL := tbl_5 5 rfl rfl
theorem m_966 : (Jvm.Cond.instanceMethod ({ cls := "BeltRowsModel", name := "known", desc := "(II)I" } : Jvm.MethodName)) ∈ TBL := tbl_5 6 rfl rfl
theorem m_967 : (Jvm.Cond.selects "BeltRowsModel" ({ cls := "BeltRowsModel", name := "known", desc := "(II)I" } : Jvm.MethodName) ({ cls := "BeltRowsModel", name := "known", desc := "(II)I" } : Jvm.MethodName)) ∈ TBL := tbl_5 7 rfl rfl
theorem m_968 : (Jvm.Cond.code ({ cls := "BeltRowsModel", name := "known", desc := "(II)I" } : Jvm.MethodName) prog_8_method_32_code (3 : Nat) (Option.some Jvm.ClassFile.FieldType.int)) ∈ TBL := tbl_5 8 rfl rfl
theorem m_969 : (Jvm.Cond.methodLink "BeltRowsLaw" (139 : Nat) ({ cls := "BeltRowsModel", name := "order", desc := "(I)I" } : Jvm.MethodName)) ∈ TBL := tbl_5 9 rfl rfl
theorem m_970 : (Jvm.Cond.instanceMethod ({ cls := "BeltRowsModel", name := "order", desc := "(I)I" } : Jvm.MethodName)) ∈ TBL := tbl_5 10 rfl rfl
theorem m_971 : (Jvm.Cond.selects "BeltRowsModel" ({ cls := "BeltRowsModel", name := "order", desc := "(I)I" } : Jvm.MethodName) ({ cls := "BeltRowsModel", name := "order", desc := "(I)I" } : Jvm.MethodName)) ∈ TBL := tbl_5 11 rfl rfl
theorem m_972 : (Jvm.Cond.code ({ cls := "BeltRowsModel", name := "order", desc := "(I)I" } : Jvm.MethodName) prog_8_method_33_code (2 : Nat) (Option.some Jvm.ClassFile.FieldType.int)) ∈ TBL := tbl_5 12 rfl rfl
theorem m_973 : (Jvm.Cond.methodLink "BeltRowsLaw" (143 : Nat) ({ cls := "BeltRowsModel", name := "mean", desc := "()I" } : Jvm.MethodName)) ∈ TBL := tbl_5 13 rfl rfl
theorem m_974 : (Jvm.Cond.instanceMethod ({ cls := "BeltRowsModel", name := "mean", desc := "()I" } : Jvm.MethodName)) ∈ TBL := tbl_5 14 rfl rfl
theorem m_975 : (Jvm.Cond.selects "BeltRowsModel" ({ cls := "BeltRowsModel", name := "mean", desc := "()I" } : Jvm.MethodName) ({ cls := "BeltRowsModel", name := "mean", desc := "()I" } : Jvm.MethodName)) ∈ TBL := tbl_5 15 rfl rfl
theorem m_976 : (Jvm.Cond.code ({ cls := "BeltRowsModel", name := "mean", desc := "()I" } : Jvm.MethodName) prog_8_method_34_code (1 : Nat) (Option.some Jvm.ClassFile.FieldType.int)) ∈ TBL := tbl_5 16 rfl rfl
theorem m_977 : (Jvm.Cond.methodLink "BeltRowsLaw" (147 : Nat) ({ cls := "BeltRowsModel", name := "count", desc := "(I)I" } : Jvm.MethodName)) ∈ TBL := tbl_5 17 rfl rfl
theorem m_978 : (Jvm.Cond.instanceMethod ({ cls := "BeltRowsModel", name := "count", desc := "(I)I" } : Jvm.MethodName)) ∈ TBL := tbl_5 18 rfl rfl
theorem m_979 : (Jvm.Cond.selects "BeltRowsModel" ({ cls := "BeltRowsModel", name := "count", desc := "(I)I" } : Jvm.MethodName) ({ cls := "BeltRowsModel", name := "count", desc := "(I)I" } : Jvm.MethodName)) ∈ TBL := tbl_5 19 rfl rfl
theorem m_980 : (Jvm.Cond.code ({ cls := "BeltRowsModel", name := "count", desc := "(I)I" } : Jvm.MethodName) prog_8_method_35_code (4 : Nat) (Option.some Jvm.ClassFile.FieldType.int)) ∈ TBL := tbl_5 20 rfl rfl
theorem m_987 : (Jvm.Cond.selects "[Ljava/lang/Object;" ({ cls := "java/lang/Object", name := "getClass", desc := "()Ljava/lang/Class;" } : Jvm.MethodName) ({ cls := "java/lang/Object", name := "getClass", desc := "()Ljava/lang/Class;" } : Jvm.MethodName)) ∈ TBL := tbl_5 27 rfl rfl
def T_Bt : u_T := fun k => match k with
  | 0 => ("BeltRows$Belt", "number", "I", true)
  | 1 => ("BeltRows$Belt", "length", "I", true)
  | 2 => ("BeltRows$Belt", "speed", "I", false)
  | 3 => ("BeltRows$Belt", "runs", "Z", false)
  | 4 => ("BeltRows$Belt", "front", "LBeltRows$Item;", false)
  | 5 => ("BeltRows$Belt", "last", "LBeltRows$Item;", false)
  | 6 => ("BeltRows$Belt", "size", "I", false)
  | 7 => ("BeltRows$Belt", "wayZero", "LBeltRows$Way;", true)
  | _ => ("BeltRows$Belt", "wayOne", "LBeltRows$Way;", true)
def y_Bt : Nat → FieldType := fun k => match k with
  | 0 => .int
  | 1 => .int
  | 2 => .int
  | 3 => .boolean
  | 4 => .object "BeltRows$Item"
  | 5 => .object "BeltRows$Item"
  | 6 => .int
  | 7 => .object "BeltRows$Way"
  | _ => .object "BeltRows$Way"
theorem nm_Bt : ∀ a, a < 9 → ∀ b, b < 9 → a ≠ b → (T_Bt a).2.1 ≠ (T_Bt b).2.1 := by decide +kernel
theorem yk_Bt : ∀ k, k < 9 → parseFieldDescriptor (T_Bt k).2.2.1 = some (y_Bt k) := by decide +kernel
theorem in_Bt : ∀ w ∈ u_ws "BeltRows$Belt" T_Bt 9, w ∈ TBL := by
  intro w hw
  obtain ⟨k, hk, rfl⟩ := List.mem_map.mp hw
  have hk := List.mem_range.mp hk
  match k, hk with
  | 0, _ => exact m_255
  | 1, _ => exact m_257
  | 2, _ => exact m_259
  | 3, _ => exact m_261
  | 4, _ => exact m_263
  | 5, _ => exact m_265
  | 6, _ => exact m_267
  | 7, _ => exact m_269
  | 8, _ => exact m_271
  | k + 9, h => exact absurd h (by omega)
def T_Ed : u_T := fun k => match k with
  | 0 => ("BeltRows$Edge", "second", "I", true)
  | 1 => ("BeltRows$Edge", "kind", "I", true)
  | 2 => ("BeltRows$Edge", "item", "I", true)
  | _ => ("BeltRows$Edge", "where", "I", true)
def y_Ed : Nat → FieldType := fun k => match k with
  | 0 => .int
  | 1 => .int
  | 2 => .int
  | _ => .int
theorem nm_Ed : ∀ a, a < 4 → ∀ b, b < 4 → a ≠ b → (T_Ed a).2.1 ≠ (T_Ed b).2.1 := by decide +kernel
theorem yk_Ed : ∀ k, k < 4 → parseFieldDescriptor (T_Ed k).2.2.1 = some (y_Ed k) := by decide +kernel
theorem in_Ed : ∀ w ∈ u_ws "BeltRows$Edge" T_Ed 4, w ∈ TBL := by
  intro w hw
  obtain ⟨k, hk, rfl⟩ := List.mem_map.mp hw
  have hk := List.mem_range.mp hk
  match k, hk with
  | 0, _ => exact m_602
  | 1, _ => exact m_604
  | 2, _ => exact m_606
  | 3, _ => exact m_608
  | k + 4, h => exact absurd h (by omega)
def T_It : u_T := fun k => match k with
  | 0 => ("BeltRows$Item", "number", "I", true)
  | 1 => ("BeltRows$Item", "length", "I", true)
  | 2 => ("BeltRows$Item", "putAt", "I", true)
  | 3 => ("BeltRows$Item", "belt", "LBeltRows$Belt;", false)
  | 4 => ("BeltRows$Item", "ahead", "LBeltRows$Item;", false)
  | 5 => ("BeltRows$Item", "behind", "LBeltRows$Item;", false)
  | 6 => ("BeltRows$Item", "state", "I", false)
  | 7 => ("BeltRows$Item", "place", "I", false)
  | 8 => ("BeltRows$Item", "expected", "I", false)
  | 9 => ("BeltRows$Item", "way", "I", false)
  | _ => ("BeltRows$Item", "wasTold", "Z", false)
def y_It : Nat → FieldType := fun k => match k with
  | 0 => .int
  | 1 => .int
  | 2 => .int
  | 3 => .object "BeltRows$Belt"
  | 4 => .object "BeltRows$Item"
  | 5 => .object "BeltRows$Item"
  | 6 => .int
  | 7 => .int
  | 8 => .int
  | 9 => .int
  | _ => .boolean
theorem nm_It : ∀ a, a < 11 → ∀ b, b < 11 → a ≠ b → (T_It a).2.1 ≠ (T_It b).2.1 := by decide +kernel
theorem yk_It : ∀ k, k < 11 → parseFieldDescriptor (T_It k).2.2.1 = some (y_It k) := by decide +kernel
theorem in_It : ∀ w ∈ u_ws "BeltRows$Item" T_It 11, w ∈ TBL := by
  intro w hw
  obtain ⟨k, hk, rfl⟩ := List.mem_map.mp hw
  have hk := List.mem_range.mp hk
  match k, hk with
  | 0, _ => exact m_468
  | 1, _ => exact m_470
  | 2, _ => exact m_472
  | 3, _ => exact m_474
  | 4, _ => exact m_476
  | 5, _ => exact m_478
  | 6, _ => exact m_480
  | 7, _ => exact m_482
  | 8, _ => exact m_484
  | 9, _ => exact m_486
  | 10, _ => exact m_488
  | k + 11, h => exact absurd h (by omega)
def T_Sc : u_T := fun k => match k with
  | 0 => ("BeltRows$Scanner", "number", "I", true)
  | 1 => ("BeltRows$Scanner", "belt", "LBeltRows$Belt;", true)
  | 2 => ("BeltRows$Scanner", "place", "I", true)
  | _ => ("BeltRows$Scanner", "delay", "I", true)
def y_Sc : Nat → FieldType := fun k => match k with
  | 0 => .int
  | 1 => .object "BeltRows$Belt"
  | 2 => .int
  | _ => .int
theorem nm_Sc : ∀ a, a < 4 → ∀ b, b < 4 → a ≠ b → (T_Sc a).2.1 ≠ (T_Sc b).2.1 := by decide +kernel
theorem yk_Sc : ∀ k, k < 4 → parseFieldDescriptor (T_Sc k).2.2.1 = some (y_Sc k) := by decide +kernel
theorem in_Sc : ∀ w ∈ u_ws "BeltRows$Scanner" T_Sc 4, w ∈ TBL := by
  intro w hw
  obtain ⟨k, hk, rfl⟩ := List.mem_map.mp hw
  have hk := List.mem_range.mp hk
  match k, hk with
  | 0, _ => exact m_411
  | 1, _ => exact m_413
  | 2, _ => exact m_415
  | 3, _ => exact m_417
  | k + 4, h => exact absurd h (by omega)
def T_Wy : u_T := fun k => match k with
  | 0 => ("BeltRows$Way", "next", "LBeltRows$Belt;", false)
  | 1 => ("BeltRows$Way", "share", "I", false)
  | _ => ("BeltRows$Way", "went", "I", false)
def y_Wy : Nat → FieldType := fun k => match k with
  | 0 => .object "BeltRows$Belt"
  | 1 => .int
  | _ => .int
theorem nm_Wy : ∀ a, a < 3 → ∀ b, b < 3 → a ≠ b → (T_Wy a).2.1 ≠ (T_Wy b).2.1 := by decide +kernel
theorem yk_Wy : ∀ k, k < 3 → parseFieldDescriptor (T_Wy k).2.2.1 = some (y_Wy k) := by decide +kernel
theorem in_Wy : ∀ w ∈ u_ws "BeltRows$Way" T_Wy 3, w ∈ TBL := by
  intro w hw
  obtain ⟨k, hk, rfl⟩ := List.mem_map.mp hw
  have hk := List.mem_range.mp hk
  match k, hk with
  | 0, _ => exact m_229
  | 1, _ => exact m_231
  | 2, _ => exact m_233
  | k + 3, h => exact absurd h (by omega)
def T_Br : u_T := fun k => match k with
  | 0 => ("BeltRows", "belts", "Ljava/util/ArrayList;", true)
  | 1 => ("BeltRows", "items", "Ljava/util/ArrayList;", true)
  | 2 => ("BeltRows", "scanners", "Ljava/util/ArrayList;", true)
  | 3 => ("BeltRows", "edges", "Ljava/util/ArrayList;", true)
  | 4 => ("BeltRows", "waiting", "Ljava/util/ArrayList;", true)
  | 5 => ("BeltRows", "gone", "Ljava/util/ArrayList;", true)
  | 6 => ("BeltRows", "leastGap", "I", false)
  | 7 => ("BeltRows", "time", "I", false)
  | _ => ("BeltRows", "secondsOfGone", "I", false)
def y_Br : Nat → FieldType := fun k => match k with
  | 0 => .object "java/util/ArrayList"
  | 1 => .object "java/util/ArrayList"
  | 2 => .object "java/util/ArrayList"
  | 3 => .object "java/util/ArrayList"
  | 4 => .object "java/util/ArrayList"
  | 5 => .object "java/util/ArrayList"
  | 6 => .int
  | 7 => .int
  | _ => .int
theorem nm_Br : ∀ a, a < 9 → ∀ b, b < 9 → a ≠ b → (T_Br a).2.1 ≠ (T_Br b).2.1 := by decide +kernel
theorem yk_Br : ∀ k, k < 9 → parseFieldDescriptor (T_Br k).2.2.1 = some (y_Br k) := by decide +kernel
theorem in_Br : ∀ w ∈ u_ws "BeltRows" T_Br 9, w ∈ TBL := by
  intro w hw
  obtain ⟨k, hk, rfl⟩ := List.mem_map.mp hw
  have hk := List.mem_range.mp hk
  match k, hk with
  | 0, _ => exact m_68
  | 1, _ => exact m_70
  | 2, _ => exact m_72
  | 3, _ => exact m_74
  | 4, _ => exact m_76
  | 5, _ => exact m_78
  | 6, _ => exact m_80
  | 7, _ => exact m_82
  | 8, _ => exact m_84
  | k + 9, h => exact absurd h (by omega)
def T_Mo : u_T := fun k => match k with
  | 0 => ("BeltRowsModel", "code", "I", false)
  | 1 => ("BeltRowsModel", "time", "I", false)
  | 2 => ("BeltRowsModel", "least", "I", false)
  | 3 => ("BeltRowsModel", "belts", "I", false)
  | 4 => ("BeltRowsModel", "length", "[I", true)
  | 5 => ("BeltRowsModel", "speed", "[I", true)
  | 6 => ("BeltRowsModel", "runs", "[Z", true)
  | 7 => ("BeltRowsModel", "next", "[I", true)
  | 8 => ("BeltRowsModel", "share", "[I", true)
  | 9 => ("BeltRowsModel", "went", "[I", true)
  | 10 => ("BeltRowsModel", "size", "[I", true)
  | 11 => ("BeltRowsModel", "row", "[I", true)
  | 12 => ("BeltRowsModel", "items", "I", false)
  | 13 => ("BeltRowsModel", "state", "[I", true)
  | 14 => ("BeltRowsModel", "belt", "[I", true)
  | 15 => ("BeltRowsModel", "place", "[I", true)
  | 16 => ("BeltRowsModel", "long0", "[I", true)
  | 17 => ("BeltRowsModel", "way", "[I", true)
  | 18 => ("BeltRowsModel", "wayTold", "[Z", true)
  | 19 => ("BeltRowsModel", "expected", "[I", true)
  | 20 => ("BeltRowsModel", "put", "[I", true)
  | 21 => ("BeltRowsModel", "scanners", "I", false)
  | 22 => ("BeltRowsModel", "scanBelt", "[I", true)
  | 23 => ("BeltRowsModel", "scanPlace", "[I", true)
  | 24 => ("BeltRowsModel", "delay", "[I", true)
  | 25 => ("BeltRowsModel", "waiting", "I", false)
  | 26 => ("BeltRowsModel", "waits", "[J", true)
  | 27 => ("BeltRowsModel", "edges", "I", false)
  | 28 => ("BeltRowsModel", "told", "[J", true)
  | 29 => ("BeltRowsModel", "outs", "I", false)
  | 30 => ("BeltRowsModel", "seconds", "I", false)
  | _ => ("BeltRowsModel", "outRow", "[I", true)
def y_Mo : Nat → FieldType := fun k => match k with
  | 0 => .int
  | 1 => .int
  | 2 => .int
  | 3 => .int
  | 4 => .array (.int)
  | 5 => .array (.int)
  | 6 => .array (.boolean)
  | 7 => .array (.int)
  | 8 => .array (.int)
  | 9 => .array (.int)
  | 10 => .array (.int)
  | 11 => .array (.int)
  | 12 => .int
  | 13 => .array (.int)
  | 14 => .array (.int)
  | 15 => .array (.int)
  | 16 => .array (.int)
  | 17 => .array (.int)
  | 18 => .array (.boolean)
  | 19 => .array (.int)
  | 20 => .array (.int)
  | 21 => .int
  | 22 => .array (.int)
  | 23 => .array (.int)
  | 24 => .array (.int)
  | 25 => .int
  | 26 => .array (.long)
  | 27 => .int
  | 28 => .array (.long)
  | 29 => .int
  | 30 => .int
  | _ => .array (.int)
theorem nm_Mo : ∀ a, a < 32 → ∀ b, b < 32 → a ≠ b → (T_Mo a).2.1 ≠ (T_Mo b).2.1 := by decide +kernel
theorem yk_Mo : ∀ k, k < 32 → parseFieldDescriptor (T_Mo k).2.2.1 = some (y_Mo k) := by decide +kernel
theorem in_Mo : ∀ w ∈ u_ws "BeltRowsModel" T_Mo 32, w ∈ TBL := by
  intro w hw
  obtain ⟨k, hk, rfl⟩ := List.mem_map.mp hw
  have hk := List.mem_range.mp hk
  match k, hk with
  | 0, _ => exact m_776
  | 1, _ => exact m_778
  | 2, _ => exact m_780
  | 3, _ => exact m_782
  | 4, _ => exact m_784
  | 5, _ => exact m_786
  | 6, _ => exact m_788
  | 7, _ => exact m_790
  | 8, _ => exact m_792
  | 9, _ => exact m_794
  | 10, _ => exact m_796
  | 11, _ => exact m_798
  | 12, _ => exact m_800
  | 13, _ => exact m_802
  | 14, _ => exact m_804
  | 15, _ => exact m_806
  | 16, _ => exact m_808
  | 17, _ => exact m_810
  | 18, _ => exact m_812
  | 19, _ => exact m_814
  | 20, _ => exact m_816
  | 21, _ => exact m_818
  | 22, _ => exact m_820
  | 23, _ => exact m_822
  | 24, _ => exact m_824
  | 25, _ => exact m_826
  | 26, _ => exact m_828
  | 27, _ => exact m_830
  | 28, _ => exact m_832
  | 29, _ => exact m_834
  | 30, _ => exact m_836
  | 31, _ => exact m_838
  | k + 32, h => exact absurd h (by omega)
def T_Al : u_T := fun k => match k with
  | 0 => ("java/util/AbstractList", "modCount", "I", false)
  | 1 => ("java/util/ArrayList", "elementData", "[Ljava/lang/Object;", false)
  | _ => ("java/util/ArrayList", "size", "I", false)
def y_Al : Nat → FieldType := fun k => match k with
  | 0 => .int
  | 1 => .array (.object "java/lang/Object")
  | _ => .int
theorem nm_Al : ∀ a, a < 3 → ∀ b, b < 3 → a ≠ b → (T_Al a).2.1 ≠ (T_Al b).2.1 := by decide +kernel
theorem yk_Al : ∀ k, k < 3 → parseFieldDescriptor (T_Al k).2.2.1 = some (y_Al k) := by decide +kernel
theorem in_Al : ∀ w ∈ u_ws "java/util/ArrayList" T_Al 3, w ∈ TBL := by
  intro w hw
  obtain ⟨k, hk, rfl⟩ := List.mem_map.mp hw
  have hk := List.mem_range.mp hk
  match k, hk with
  | 0, _ => exact m_56
  | 1, _ => exact m_52
  | 2, _ => exact m_54
  | k + 3, h => exact absurd h (by omega)
abbrev cls8 : List vw_C := [("BeltRows$Belt", T_Bt, 9), ("BeltRows$Edge", T_Ed, 4), ("BeltRows$Item", T_It, 11), ("BeltRows$Scanner", T_Sc, 4), ("BeltRows$Way", T_Wy, 3), ("BeltRows", T_Br, 9), ("BeltRowsModel", T_Mo, 32), ("java/util/ArrayList", T_Al, 3)]
def FTc : Nat → List Nat := fun k => match k with
  | 0 => [0, 0, 0, 0, 1, 1, 0, 1, 1]
  | 1 => [0, 0, 0, 0]
  | 2 => [0, 0, 0, 1, 1, 1, 0, 0, 0, 0, 0]
  | 3 => [0, 1, 0, 0]
  | 4 => [1, 0, 0]
  | 5 => [1, 1, 1, 1, 1, 1, 0, 0, 0]
  | 6 => [0, 0, 0, 0, 1, 1, 1, 1, 1, 1, 1, 1, 0, 1, 1, 1, 1, 1, 1, 1, 1, 0, 1, 1, 1, 0, 1, 0, 1, 0, 0, 1]
  | 7 => [0, 1, 0]
  | _ => []
end
section
abbrev b_Bt_init : ByteArray := prog_2_method_1_code
abbrev n_Bt_init : MethodName := ⟨"BeltRows$Belt", "<init>", "(III)V"⟩
theorem d_Bt_init_0 : decode b_Bt_init 0 = .ok (.aload_n 0, 1) := by decide +kernel
theorem d_Bt_init_1 : decode b_Bt_init 1 = .ok (.invokespecial 1, 3) := by decide +kernel
theorem d_Bt_init_4 : decode b_Bt_init 4 = .ok (.aload_n 0, 1) := by decide +kernel
theorem d_Bt_init_5 : decode b_Bt_init 5 = .ok (.iload_n 1, 1) := by decide +kernel
theorem d_Bt_init_6 : decode b_Bt_init 6 = .ok (.putfield 7, 3) := by decide +kernel
theorem d_Bt_init_9 : decode b_Bt_init 9 = .ok (.aload_n 0, 1) := by decide +kernel
theorem d_Bt_init_10 : decode b_Bt_init 10 = .ok (.iload_n 2, 1) := by decide +kernel
theorem d_Bt_init_11 : decode b_Bt_init 11 = .ok (.putfield 13, 3) := by decide +kernel
theorem d_Bt_init_14 : decode b_Bt_init 14 = .ok (.aload_n 0, 1) := by decide +kernel
theorem d_Bt_init_15 : decode b_Bt_init 15 = .ok (.iload_n 3, 1) := by decide +kernel
theorem d_Bt_init_16 : decode b_Bt_init 16 = .ok (.putfield 16, 3) := by decide +kernel
theorem d_Bt_init_19 : decode b_Bt_init 19 = .ok (.aload_n 0, 1) := by decide +kernel
theorem d_Bt_init_20 : decode b_Bt_init 20 = .ok (.iconst 1, 1) := by decide +kernel
theorem d_Bt_init_21 : decode b_Bt_init 21 = .ok (.putfield 19, 3) := by decide +kernel
theorem d_Bt_init_24 : decode b_Bt_init 24 = .ok (.aload_n 0, 1) := by decide +kernel
theorem d_Bt_init_25 : decode b_Bt_init 25 = .ok (.aconst_null, 1) := by decide +kernel
theorem d_Bt_init_26 : decode b_Bt_init 26 = .ok (.putfield 23, 3) := by decide +kernel
theorem d_Bt_init_29 : decode b_Bt_init 29 = .ok (.aload_n 0, 1) := by decide +kernel
theorem d_Bt_init_30 : decode b_Bt_init 30 = .ok (.aconst_null, 1) := by decide +kernel
theorem d_Bt_init_31 : decode b_Bt_init 31 = .ok (.putfield 27, 3) := by decide +kernel
theorem d_Bt_init_34 : decode b_Bt_init 34 = .ok (.aload_n 0, 1) := by decide +kernel
theorem d_Bt_init_35 : decode b_Bt_init 35 = .ok (.iconst 0, 1) := by decide +kernel
theorem d_Bt_init_36 : decode b_Bt_init 36 = .ok (.putfield 30, 3) := by decide +kernel
theorem d_Bt_init_39 : decode b_Bt_init 39 = .ok (.aload_n 0, 1) := by decide +kernel
theorem d_Bt_init_40 : decode b_Bt_init 40 = .ok (.new 33, 3) := by decide +kernel
theorem d_Bt_init_43 : decode b_Bt_init 43 = .ok (.dup, 1) := by decide +kernel
theorem d_Bt_init_44 : decode b_Bt_init 44 = .ok (.invokespecial 35, 3) := by decide +kernel
theorem d_Bt_init_47 : decode b_Bt_init 47 = .ok (.putfield 36, 3) := by decide +kernel
theorem d_Bt_init_50 : decode b_Bt_init 50 = .ok (.aload_n 0, 1) := by decide +kernel
theorem d_Bt_init_51 : decode b_Bt_init 51 = .ok (.new 33, 3) := by decide +kernel
theorem d_Bt_init_54 : decode b_Bt_init 54 = .ok (.dup, 1) := by decide +kernel
theorem d_Bt_init_55 : decode b_Bt_init 55 = .ok (.invokespecial 35, 3) := by decide +kernel
theorem d_Bt_init_58 : decode b_Bt_init 58 = .ok (.putfield 40, 3) := by decide +kernel
theorem d_Bt_init_61 : decode b_Bt_init 61 = .ok (.return_, 1) := by decide +kernel
abbrev b_Wy_init : ByteArray := prog_6_method_1_code
abbrev n_Wy_init : MethodName := ⟨"BeltRows$Way", "<init>", "()V"⟩
theorem d_Wy_init_0 : decode b_Wy_init 0 = .ok (.aload_n 0, 1) := by decide +kernel
theorem d_Wy_init_1 : decode b_Wy_init 1 = .ok (.invokespecial 3, 3) := by decide +kernel
theorem d_Wy_init_4 : decode b_Wy_init 4 = .ok (.aload_n 0, 1) := by decide +kernel
theorem d_Wy_init_5 : decode b_Wy_init 5 = .ok (.aconst_null, 1) := by decide +kernel
theorem d_Wy_init_6 : decode b_Wy_init 6 = .ok (.putfield 9, 3) := by decide +kernel
theorem d_Wy_init_9 : decode b_Wy_init 9 = .ok (.aload_n 0, 1) := by decide +kernel
theorem d_Wy_init_10 : decode b_Wy_init 10 = .ok (.iconst 1, 1) := by decide +kernel
theorem d_Wy_init_11 : decode b_Wy_init 11 = .ok (.putfield 15, 3) := by decide +kernel
theorem d_Wy_init_14 : decode b_Wy_init 14 = .ok (.aload_n 0, 1) := by decide +kernel
theorem d_Wy_init_15 : decode b_Wy_init 15 = .ok (.iconst 0, 1) := by decide +kernel
theorem d_Wy_init_16 : decode b_Wy_init 16 = .ok (.putfield 19, 3) := by decide +kernel
theorem d_Wy_init_19 : decode b_Wy_init 19 = .ok (.return_, 1) := by decide +kernel
abbrev b_Bt_wayNumbered : ByteArray := prog_2_method_2_code
abbrev n_Bt_wayNumbered : MethodName := ⟨"BeltRows$Belt", "wayNumbered", "(I)LBeltRows$Way;"⟩
theorem d_Bt_wayNumbered_0 : decode b_Bt_wayNumbered 0 = .ok (.iload_n 1, 1) := by decide +kernel
theorem d_Bt_wayNumbered_1 : decode b_Bt_wayNumbered 1 = .ok (.iconst 1, 1) := by decide +kernel
theorem d_Bt_wayNumbered_2 : decode b_Bt_wayNumbered 2 = .ok (.if_icmp .ne 10, 3) := by decide +kernel
theorem d_Bt_wayNumbered_5 : decode b_Bt_wayNumbered 5 = .ok (.aload_n 0, 1) := by decide +kernel
theorem d_Bt_wayNumbered_6 : decode b_Bt_wayNumbered 6 = .ok (.getfield 40, 3) := by decide +kernel
theorem d_Bt_wayNumbered_9 : decode b_Bt_wayNumbered 9 = .ok (.goto 7, 3) := by decide +kernel
theorem d_Bt_wayNumbered_12 : decode b_Bt_wayNumbered 12 = .ok (.aload_n 0, 1) := by decide +kernel
theorem d_Bt_wayNumbered_13 : decode b_Bt_wayNumbered 13 = .ok (.getfield 36, 3) := by decide +kernel
theorem d_Bt_wayNumbered_16 : decode b_Bt_wayNumbered 16 = .ok (.areturn, 1) := by decide +kernel
abbrev b_Wy_leadTo : ByteArray := prog_6_method_2_code
abbrev n_Wy_leadTo : MethodName := ⟨"BeltRows$Way", "leadTo", "(LBeltRows$Belt;I)V"⟩
theorem d_Wy_leadTo_0 : decode b_Wy_leadTo 0 = .ok (.aload_n 0, 1) := by decide +kernel
theorem d_Wy_leadTo_1 : decode b_Wy_leadTo 1 = .ok (.aload_n 1, 1) := by decide +kernel
theorem d_Wy_leadTo_2 : decode b_Wy_leadTo 2 = .ok (.putfield 9, 3) := by decide +kernel
theorem d_Wy_leadTo_5 : decode b_Wy_leadTo 5 = .ok (.aload_n 0, 1) := by decide +kernel
theorem d_Wy_leadTo_6 : decode b_Wy_leadTo 6 = .ok (.iload_n 2, 1) := by decide +kernel
theorem d_Wy_leadTo_7 : decode b_Wy_leadTo 7 = .ok (.putfield 15, 3) := by decide +kernel
theorem d_Wy_leadTo_10 : decode b_Wy_leadTo 10 = .ok (.aload_n 0, 1) := by decide +kernel
theorem d_Wy_leadTo_11 : decode b_Wy_leadTo 11 = .ok (.iconst 0, 1) := by decide +kernel
theorem d_Wy_leadTo_12 : decode b_Wy_leadTo 12 = .ok (.putfield 19, 3) := by decide +kernel
theorem d_Wy_leadTo_15 : decode b_Wy_leadTo 15 = .ok (.return_, 1) := by decide +kernel
abbrev b_Sc_init : ByteArray := prog_5_method_1_code
abbrev n_Sc_init : MethodName := ⟨"BeltRows$Scanner", "<init>", "(ILBeltRows$Belt;II)V"⟩
theorem d_Sc_init_0 : decode b_Sc_init 0 = .ok (.aload_n 0, 1) := by decide +kernel
theorem d_Sc_init_1 : decode b_Sc_init 1 = .ok (.invokespecial 1, 3) := by decide +kernel
theorem d_Sc_init_4 : decode b_Sc_init 4 = .ok (.aload_n 0, 1) := by decide +kernel
theorem d_Sc_init_5 : decode b_Sc_init 5 = .ok (.iload_n 1, 1) := by decide +kernel
theorem d_Sc_init_6 : decode b_Sc_init 6 = .ok (.putfield 7, 3) := by decide +kernel
theorem d_Sc_init_9 : decode b_Sc_init 9 = .ok (.aload_n 0, 1) := by decide +kernel
theorem d_Sc_init_10 : decode b_Sc_init 10 = .ok (.aload_n 2, 1) := by decide +kernel
theorem d_Sc_init_11 : decode b_Sc_init 11 = .ok (.putfield 13, 3) := by decide +kernel
theorem d_Sc_init_14 : decode b_Sc_init 14 = .ok (.aload_n 0, 1) := by decide +kernel
theorem d_Sc_init_15 : decode b_Sc_init 15 = .ok (.iload_n 3, 1) := by decide +kernel
theorem d_Sc_init_16 : decode b_Sc_init 16 = .ok (.putfield 17, 3) := by decide +kernel
theorem d_Sc_init_19 : decode b_Sc_init 19 = .ok (.aload_n 0, 1) := by decide +kernel
theorem d_Sc_init_20 : decode b_Sc_init 20 = .ok (.iload 4, 2) := by decide +kernel
theorem d_Sc_init_22 : decode b_Sc_init 22 = .ok (.putfield 20, 3) := by decide +kernel
theorem d_Sc_init_25 : decode b_Sc_init 25 = .ok (.return_, 1) := by decide +kernel
abbrev b_It_rear : ByteArray := prog_4_method_2_code
abbrev n_It_rear : MethodName := ⟨"BeltRows$Item", "rear", "()I"⟩
theorem d_It_rear_0 : decode b_It_rear 0 = .ok (.aload_n 0, 1) := by decide +kernel
theorem d_It_rear_1 : decode b_It_rear 1 = .ok (.getfield 35, 3) := by decide +kernel
theorem d_It_rear_4 : decode b_It_rear 4 = .ok (.aload_n 0, 1) := by decide +kernel
theorem d_It_rear_5 : decode b_It_rear 5 = .ok (.getfield 15, 3) := by decide +kernel
theorem d_It_rear_8 : decode b_It_rear 8 = .ok (.isub, 1) := by decide +kernel
theorem d_It_rear_9 : decode b_It_rear 9 = .ok (.ireturn, 1) := by decide +kernel
abbrev b_It_init : ByteArray := prog_4_method_1_code
abbrev n_It_init : MethodName := ⟨"BeltRows$Item", "<init>", "(III)V"⟩
theorem d_It_init_0 : decode b_It_init 0 = .ok (.aload_n 0, 1) := by decide +kernel
theorem d_It_init_1 : decode b_It_init 1 = .ok (.invokespecial 3, 3) := by decide +kernel
theorem d_It_init_4 : decode b_It_init 4 = .ok (.aload_n 0, 1) := by decide +kernel
theorem d_It_init_5 : decode b_It_init 5 = .ok (.iload_n 1, 1) := by decide +kernel
theorem d_It_init_6 : decode b_It_init 6 = .ok (.putfield 9, 3) := by decide +kernel
theorem d_It_init_9 : decode b_It_init 9 = .ok (.aload_n 0, 1) := by decide +kernel
theorem d_It_init_10 : decode b_It_init 10 = .ok (.iload_n 2, 1) := by decide +kernel
theorem d_It_init_11 : decode b_It_init 11 = .ok (.putfield 15, 3) := by decide +kernel
theorem d_It_init_14 : decode b_It_init 14 = .ok (.aload_n 0, 1) := by decide +kernel
theorem d_It_init_15 : decode b_It_init 15 = .ok (.iload_n 3, 1) := by decide +kernel
theorem d_It_init_16 : decode b_It_init 16 = .ok (.putfield 18, 3) := by decide +kernel
theorem d_It_init_19 : decode b_It_init 19 = .ok (.aload_n 0, 1) := by decide +kernel
theorem d_It_init_20 : decode b_It_init 20 = .ok (.aconst_null, 1) := by decide +kernel
theorem d_It_init_21 : decode b_It_init 21 = .ok (.putfield 21, 3) := by decide +kernel
theorem d_It_init_24 : decode b_It_init 24 = .ok (.aload_n 0, 1) := by decide +kernel
theorem d_It_init_25 : decode b_It_init 25 = .ok (.aconst_null, 1) := by decide +kernel
theorem d_It_init_26 : decode b_It_init 26 = .ok (.putfield 25, 3) := by decide +kernel
theorem d_It_init_29 : decode b_It_init 29 = .ok (.aload_n 0, 1) := by decide +kernel
theorem d_It_init_30 : decode b_It_init 30 = .ok (.aconst_null, 1) := by decide +kernel
theorem d_It_init_31 : decode b_It_init 31 = .ok (.putfield 29, 3) := by decide +kernel
theorem d_It_init_34 : decode b_It_init 34 = .ok (.aload_n 0, 1) := by decide +kernel
theorem d_It_init_35 : decode b_It_init 35 = .ok (.iconst 0, 1) := by decide +kernel
theorem d_It_init_36 : decode b_It_init 36 = .ok (.putfield 32, 3) := by decide +kernel
theorem d_It_init_39 : decode b_It_init 39 = .ok (.aload_n 0, 1) := by decide +kernel
theorem d_It_init_40 : decode b_It_init 40 = .ok (.iconst 0, 1) := by decide +kernel
theorem d_It_init_41 : decode b_It_init 41 = .ok (.putfield 35, 3) := by decide +kernel
theorem d_It_init_44 : decode b_It_init 44 = .ok (.aload_n 0, 1) := by decide +kernel
theorem d_It_init_45 : decode b_It_init 45 = .ok (.iconst 0, 1) := by decide +kernel
theorem d_It_init_46 : decode b_It_init 46 = .ok (.putfield 38, 3) := by decide +kernel
theorem d_It_init_49 : decode b_It_init 49 = .ok (.aload_n 0, 1) := by decide +kernel
theorem d_It_init_50 : decode b_It_init 50 = .ok (.iconst 0, 1) := by decide +kernel
theorem d_It_init_51 : decode b_It_init 51 = .ok (.putfield 41, 3) := by decide +kernel
theorem d_It_init_54 : decode b_It_init 54 = .ok (.aload_n 0, 1) := by decide +kernel
theorem d_It_init_55 : decode b_It_init 55 = .ok (.iconst 0, 1) := by decide +kernel
theorem d_It_init_56 : decode b_It_init 56 = .ok (.putfield 44, 3) := by decide +kernel
theorem d_It_init_59 : decode b_It_init 59 = .ok (.return_, 1) := by decide +kernel
abbrev b_Bt_takeOn : ByteArray := prog_2_method_6_code
abbrev n_Bt_takeOn : MethodName := ⟨"BeltRows$Belt", "takeOn", "(LBeltRows$Item;)V"⟩
theorem d_Bt_takeOn_0 : decode b_Bt_takeOn 0 = .ok (.aload_n 1, 1) := by decide +kernel
theorem d_Bt_takeOn_1 : decode b_Bt_takeOn 1 = .ok (.aload_n 0, 1) := by decide +kernel
theorem d_Bt_takeOn_2 : decode b_Bt_takeOn 2 = .ok (.aload_n 0, 1) := by decide +kernel
theorem d_Bt_takeOn_3 : decode b_Bt_takeOn 3 = .ok (.getfield 27, 3) := by decide +kernel
theorem d_Bt_takeOn_6 : decode b_Bt_takeOn 6 = .ok (.invokevirtual 67, 3) := by decide +kernel
theorem d_Bt_takeOn_9 : decode b_Bt_takeOn 9 = .ok (.aload_n 0, 1) := by decide +kernel
theorem d_Bt_takeOn_10 : decode b_Bt_takeOn 10 = .ok (.getfield 27, 3) := by decide +kernel
theorem d_Bt_takeOn_13 : decode b_Bt_takeOn 13 = .ok (.ifnonnull 11, 3) := by decide +kernel
theorem d_Bt_takeOn_16 : decode b_Bt_takeOn 16 = .ok (.aload_n 0, 1) := by decide +kernel
theorem d_Bt_takeOn_17 : decode b_Bt_takeOn 17 = .ok (.aload_n 1, 1) := by decide +kernel
theorem d_Bt_takeOn_18 : decode b_Bt_takeOn 18 = .ok (.putfield 23, 3) := by decide +kernel
theorem d_Bt_takeOn_21 : decode b_Bt_takeOn 21 = .ok (.goto 11, 3) := by decide +kernel
theorem d_Bt_takeOn_24 : decode b_Bt_takeOn 24 = .ok (.aload_n 0, 1) := by decide +kernel
theorem d_Bt_takeOn_25 : decode b_Bt_takeOn 25 = .ok (.getfield 27, 3) := by decide +kernel
theorem d_Bt_takeOn_28 : decode b_Bt_takeOn 28 = .ok (.aload_n 1, 1) := by decide +kernel
theorem d_Bt_takeOn_29 : decode b_Bt_takeOn 29 = .ok (.putfield 71, 3) := by decide +kernel
theorem d_Bt_takeOn_32 : decode b_Bt_takeOn 32 = .ok (.aload_n 0, 1) := by decide +kernel
theorem d_Bt_takeOn_33 : decode b_Bt_takeOn 33 = .ok (.aload_n 1, 1) := by decide +kernel
theorem d_Bt_takeOn_34 : decode b_Bt_takeOn 34 = .ok (.putfield 27, 3) := by decide +kernel
theorem d_Bt_takeOn_37 : decode b_Bt_takeOn 37 = .ok (.aload_n 0, 1) := by decide +kernel
theorem d_Bt_takeOn_38 : decode b_Bt_takeOn 38 = .ok (.dup, 1) := by decide +kernel
theorem d_Bt_takeOn_39 : decode b_Bt_takeOn 39 = .ok (.getfield 30, 3) := by decide +kernel
theorem d_Bt_takeOn_42 : decode b_Bt_takeOn 42 = .ok (.iconst 1, 1) := by decide +kernel
theorem d_Bt_takeOn_43 : decode b_Bt_takeOn 43 = .ok (.iadd, 1) := by decide +kernel
theorem d_Bt_takeOn_44 : decode b_Bt_takeOn 44 = .ok (.putfield 30, 3) := by decide +kernel
theorem d_Bt_takeOn_47 : decode b_Bt_takeOn 47 = .ok (.return_, 1) := by decide +kernel
abbrev b_It_startOn : ByteArray := prog_4_method_3_code
abbrev n_It_startOn : MethodName := ⟨"BeltRows$Item", "startOn", "(LBeltRows$Belt;LBeltRows$Item;)V"⟩
theorem d_It_startOn_0 : decode b_It_startOn 0 = .ok (.aload_n 0, 1) := by decide +kernel
theorem d_It_startOn_1 : decode b_It_startOn 1 = .ok (.aload_n 1, 1) := by decide +kernel
theorem d_It_startOn_2 : decode b_It_startOn 2 = .ok (.putfield 21, 3) := by decide +kernel
theorem d_It_startOn_5 : decode b_It_startOn 5 = .ok (.aload_n 0, 1) := by decide +kernel
theorem d_It_startOn_6 : decode b_It_startOn 6 = .ok (.aload_n 2, 1) := by decide +kernel
theorem d_It_startOn_7 : decode b_It_startOn 7 = .ok (.putfield 25, 3) := by decide +kernel
theorem d_It_startOn_10 : decode b_It_startOn 10 = .ok (.aload_n 0, 1) := by decide +kernel
theorem d_It_startOn_11 : decode b_It_startOn 11 = .ok (.aconst_null, 1) := by decide +kernel
theorem d_It_startOn_12 : decode b_It_startOn 12 = .ok (.putfield 29, 3) := by decide +kernel
theorem d_It_startOn_15 : decode b_It_startOn 15 = .ok (.aload_n 0, 1) := by decide +kernel
theorem d_It_startOn_16 : decode b_It_startOn 16 = .ok (.iconst 0, 1) := by decide +kernel
theorem d_It_startOn_17 : decode b_It_startOn 17 = .ok (.putfield 35, 3) := by decide +kernel
theorem d_It_startOn_20 : decode b_It_startOn 20 = .ok (.aload_n 0, 1) := by decide +kernel
theorem d_It_startOn_21 : decode b_It_startOn 21 = .ok (.iconst 0, 1) := by decide +kernel
theorem d_It_startOn_22 : decode b_It_startOn 22 = .ok (.putfield 38, 3) := by decide +kernel
theorem d_It_startOn_25 : decode b_It_startOn 25 = .ok (.aload_n 0, 1) := by decide +kernel
theorem d_It_startOn_26 : decode b_It_startOn 26 = .ok (.invokevirtual 48, 3) := by decide +kernel
theorem d_It_startOn_29 : decode b_It_startOn 29 = .ok (.return_, 1) := by decide +kernel
abbrev b_It_forgetWay : ByteArray := prog_4_method_6_code
abbrev n_It_forgetWay : MethodName := ⟨"BeltRows$Item", "forgetWay", "()V"⟩
theorem d_It_forgetWay_0 : decode b_It_forgetWay 0 = .ok (.aload_n 0, 1) := by decide +kernel
theorem d_It_forgetWay_1 : decode b_It_forgetWay 1 = .ok (.iconst 0, 1) := by decide +kernel
theorem d_It_forgetWay_2 : decode b_It_forgetWay 2 = .ok (.putfield 41, 3) := by decide +kernel
theorem d_It_forgetWay_5 : decode b_It_forgetWay 5 = .ok (.aload_n 0, 1) := by decide +kernel
theorem d_It_forgetWay_6 : decode b_It_forgetWay 6 = .ok (.iconst 0, 1) := by decide +kernel
theorem d_It_forgetWay_7 : decode b_It_forgetWay 7 = .ok (.putfield 44, 3) := by decide +kernel
theorem d_It_forgetWay_10 : decode b_It_forgetWay 10 = .ok (.return_, 1) := by decide +kernel
abbrev b_Bt_itemAtEnd : ByteArray := prog_2_method_4_code
abbrev n_Bt_itemAtEnd : MethodName := ⟨"BeltRows$Belt", "itemAtEnd", "()LBeltRows$Item;"⟩
theorem d_Bt_itemAtEnd_0 : decode b_Bt_itemAtEnd 0 = .ok (.aload_n 0, 1) := by decide +kernel
theorem d_Bt_itemAtEnd_1 : decode b_Bt_itemAtEnd 1 = .ok (.getfield 23, 3) := by decide +kernel
theorem d_Bt_itemAtEnd_4 : decode b_Bt_itemAtEnd 4 = .ok (.ifnull 24, 3) := by decide +kernel
theorem d_Bt_itemAtEnd_7 : decode b_Bt_itemAtEnd 7 = .ok (.aload_n 0, 1) := by decide +kernel
theorem d_Bt_itemAtEnd_8 : decode b_Bt_itemAtEnd 8 = .ok (.getfield 23, 3) := by decide +kernel
theorem d_Bt_itemAtEnd_11 : decode b_Bt_itemAtEnd 11 = .ok (.getfield 56, 3) := by decide +kernel
theorem d_Bt_itemAtEnd_14 : decode b_Bt_itemAtEnd 14 = .ok (.aload_n 0, 1) := by decide +kernel
theorem d_Bt_itemAtEnd_15 : decode b_Bt_itemAtEnd 15 = .ok (.getfield 13, 3) := by decide +kernel
theorem d_Bt_itemAtEnd_18 : decode b_Bt_itemAtEnd 18 = .ok (.if_icmp .ne 10, 3) := by decide +kernel
theorem d_Bt_itemAtEnd_21 : decode b_Bt_itemAtEnd 21 = .ok (.aload_n 0, 1) := by decide +kernel
theorem d_Bt_itemAtEnd_22 : decode b_Bt_itemAtEnd 22 = .ok (.getfield 23, 3) := by decide +kernel
theorem d_Bt_itemAtEnd_25 : decode b_Bt_itemAtEnd 25 = .ok (.goto 4, 3) := by decide +kernel
theorem d_Bt_itemAtEnd_28 : decode b_Bt_itemAtEnd 28 = .ok (.aconst_null, 1) := by decide +kernel
theorem d_Bt_itemAtEnd_29 : decode b_Bt_itemAtEnd 29 = .ok (.areturn, 1) := by decide +kernel
abbrev b_Bt_wayOf : ByteArray := prog_2_method_3_code
abbrev n_Bt_wayOf : MethodName := ⟨"BeltRows$Belt", "wayOf", "(LBeltRows$Item;)LBeltRows$Way;"⟩
theorem d_Bt_wayOf_0 : decode b_Bt_wayOf 0 = .ok (.aload_n 0, 1) := by decide +kernel
theorem d_Bt_wayOf_1 : decode b_Bt_wayOf 1 = .ok (.aload_n 1, 1) := by decide +kernel
theorem d_Bt_wayOf_2 : decode b_Bt_wayOf 2 = .ok (.getfield 43, 3) := by decide +kernel
theorem d_Bt_wayOf_5 : decode b_Bt_wayOf 5 = .ok (.invokevirtual 48, 3) := by decide +kernel
theorem d_Bt_wayOf_8 : decode b_Bt_wayOf 8 = .ok (.astore_n 2, 1) := by decide +kernel
theorem d_Bt_wayOf_9 : decode b_Bt_wayOf 9 = .ok (.aload_n 2, 1) := by decide +kernel
theorem d_Bt_wayOf_10 : decode b_Bt_wayOf 10 = .ok (.getfield 52, 3) := by decide +kernel
theorem d_Bt_wayOf_13 : decode b_Bt_wayOf 13 = .ok (.ifnull 5, 3) := by decide +kernel
theorem d_Bt_wayOf_16 : decode b_Bt_wayOf 16 = .ok (.aload_n 2, 1) := by decide +kernel
theorem d_Bt_wayOf_17 : decode b_Bt_wayOf 17 = .ok (.areturn, 1) := by decide +kernel
theorem d_Bt_wayOf_18 : decode b_Bt_wayOf 18 = .ok (.aload_n 0, 1) := by decide +kernel
theorem d_Bt_wayOf_19 : decode b_Bt_wayOf 19 = .ok (.getfield 36, 3) := by decide +kernel
theorem d_Bt_wayOf_22 : decode b_Bt_wayOf 22 = .ok (.getfield 52, 3) := by decide +kernel
theorem d_Bt_wayOf_25 : decode b_Bt_wayOf 25 = .ok (.ifnull 10, 3) := by decide +kernel
theorem d_Bt_wayOf_28 : decode b_Bt_wayOf 28 = .ok (.aload_n 0, 1) := by decide +kernel
theorem d_Bt_wayOf_29 : decode b_Bt_wayOf 29 = .ok (.getfield 36, 3) := by decide +kernel
theorem d_Bt_wayOf_32 : decode b_Bt_wayOf 32 = .ok (.goto 4, 3) := by decide +kernel
theorem d_Bt_wayOf_35 : decode b_Bt_wayOf 35 = .ok (.aconst_null, 1) := by decide +kernel
theorem d_Bt_wayOf_36 : decode b_Bt_wayOf 36 = .ok (.areturn, 1) := by decide +kernel
abbrev b_It_leave : ByteArray := prog_4_method_4_code
abbrev n_It_leave : MethodName := ⟨"BeltRows$Item", "leave", "(I)V"⟩
theorem d_It_leave_0 : decode b_It_leave 0 = .ok (.aload_n 0, 1) := by decide +kernel
theorem d_It_leave_1 : decode b_It_leave 1 = .ok (.getfield 21, 3) := by decide +kernel
theorem d_It_leave_4 : decode b_It_leave 4 = .ok (.ifnull 11, 3) := by decide +kernel
theorem d_It_leave_7 : decode b_It_leave 7 = .ok (.aload_n 0, 1) := by decide +kernel
theorem d_It_leave_8 : decode b_It_leave 8 = .ok (.getfield 21, 3) := by decide +kernel
theorem d_It_leave_11 : decode b_It_leave 11 = .ok (.aload_n 0, 1) := by decide +kernel
theorem d_It_leave_12 : decode b_It_leave 12 = .ok (.invokevirtual 51, 3) := by decide +kernel
theorem d_It_leave_15 : decode b_It_leave 15 = .ok (.aload_n 0, 1) := by decide +kernel
theorem d_It_leave_16 : decode b_It_leave 16 = .ok (.iload_n 1, 1) := by decide +kernel
theorem d_It_leave_17 : decode b_It_leave 17 = .ok (.putfield 32, 3) := by decide +kernel
theorem d_It_leave_20 : decode b_It_leave 20 = .ok (.aload_n 0, 1) := by decide +kernel
theorem d_It_leave_21 : decode b_It_leave 21 = .ok (.invokevirtual 48, 3) := by decide +kernel
theorem d_It_leave_24 : decode b_It_leave 24 = .ok (.return_, 1) := by decide +kernel
abbrev b_Bt_letGo : ByteArray := prog_2_method_7_code
abbrev n_Bt_letGo : MethodName := ⟨"BeltRows$Belt", "letGo", "(LBeltRows$Item;)V"⟩
theorem d_Bt_letGo_0 : decode b_Bt_letGo 0 = .ok (.aload_n 1, 1) := by decide +kernel
theorem d_Bt_letGo_1 : decode b_Bt_letGo 1 = .ok (.getfield 74, 3) := by decide +kernel
theorem d_Bt_letGo_4 : decode b_Bt_letGo 4 = .ok (.ifnonnull 14, 3) := by decide +kernel
theorem d_Bt_letGo_7 : decode b_Bt_letGo 7 = .ok (.aload_n 0, 1) := by decide +kernel
theorem d_Bt_letGo_8 : decode b_Bt_letGo 8 = .ok (.aload_n 1, 1) := by decide +kernel
theorem d_Bt_letGo_9 : decode b_Bt_letGo 9 = .ok (.getfield 71, 3) := by decide +kernel
theorem d_Bt_letGo_12 : decode b_Bt_letGo 12 = .ok (.putfield 23, 3) := by decide +kernel
theorem d_Bt_letGo_15 : decode b_Bt_letGo 15 = .ok (.goto 14, 3) := by decide +kernel
theorem d_Bt_letGo_18 : decode b_Bt_letGo 18 = .ok (.aload_n 1, 1) := by decide +kernel
theorem d_Bt_letGo_19 : decode b_Bt_letGo 19 = .ok (.getfield 74, 3) := by decide +kernel
theorem d_Bt_letGo_22 : decode b_Bt_letGo 22 = .ok (.aload_n 1, 1) := by decide +kernel
theorem d_Bt_letGo_23 : decode b_Bt_letGo 23 = .ok (.getfield 71, 3) := by decide +kernel
theorem d_Bt_letGo_26 : decode b_Bt_letGo 26 = .ok (.putfield 71, 3) := by decide +kernel
theorem d_Bt_letGo_29 : decode b_Bt_letGo 29 = .ok (.aload_n 1, 1) := by decide +kernel
theorem d_Bt_letGo_30 : decode b_Bt_letGo 30 = .ok (.getfield 71, 3) := by decide +kernel
theorem d_Bt_letGo_33 : decode b_Bt_letGo 33 = .ok (.ifnonnull 14, 3) := by decide +kernel
theorem d_Bt_letGo_36 : decode b_Bt_letGo 36 = .ok (.aload_n 0, 1) := by decide +kernel
theorem d_Bt_letGo_37 : decode b_Bt_letGo 37 = .ok (.aload_n 1, 1) := by decide +kernel
theorem d_Bt_letGo_38 : decode b_Bt_letGo 38 = .ok (.getfield 74, 3) := by decide +kernel
theorem d_Bt_letGo_41 : decode b_Bt_letGo 41 = .ok (.putfield 27, 3) := by decide +kernel
theorem d_Bt_letGo_44 : decode b_Bt_letGo 44 = .ok (.goto 14, 3) := by decide +kernel
theorem d_Bt_letGo_47 : decode b_Bt_letGo 47 = .ok (.aload_n 1, 1) := by decide +kernel
theorem d_Bt_letGo_48 : decode b_Bt_letGo 48 = .ok (.getfield 71, 3) := by decide +kernel
theorem d_Bt_letGo_51 : decode b_Bt_letGo 51 = .ok (.aload_n 1, 1) := by decide +kernel
theorem d_Bt_letGo_52 : decode b_Bt_letGo 52 = .ok (.getfield 74, 3) := by decide +kernel
theorem d_Bt_letGo_55 : decode b_Bt_letGo 55 = .ok (.putfield 74, 3) := by decide +kernel
theorem d_Bt_letGo_58 : decode b_Bt_letGo 58 = .ok (.aload_n 1, 1) := by decide +kernel
theorem d_Bt_letGo_59 : decode b_Bt_letGo 59 = .ok (.aconst_null, 1) := by decide +kernel
theorem d_Bt_letGo_60 : decode b_Bt_letGo 60 = .ok (.putfield 74, 3) := by decide +kernel
theorem d_Bt_letGo_63 : decode b_Bt_letGo 63 = .ok (.aload_n 1, 1) := by decide +kernel
theorem d_Bt_letGo_64 : decode b_Bt_letGo 64 = .ok (.aconst_null, 1) := by decide +kernel
theorem d_Bt_letGo_65 : decode b_Bt_letGo 65 = .ok (.putfield 71, 3) := by decide +kernel
theorem d_Bt_letGo_68 : decode b_Bt_letGo 68 = .ok (.aload_n 0, 1) := by decide +kernel
theorem d_Bt_letGo_69 : decode b_Bt_letGo 69 = .ok (.dup, 1) := by decide +kernel
theorem d_Bt_letGo_70 : decode b_Bt_letGo 70 = .ok (.getfield 30, 3) := by decide +kernel
theorem d_Bt_letGo_73 : decode b_Bt_letGo 73 = .ok (.iconst 1, 1) := by decide +kernel
theorem d_Bt_letGo_74 : decode b_Bt_letGo 74 = .ok (.isub, 1) := by decide +kernel
theorem d_Bt_letGo_75 : decode b_Bt_letGo 75 = .ok (.putfield 30, 3) := by decide +kernel
theorem d_Bt_letGo_78 : decode b_Bt_letGo 78 = .ok (.return_, 1) := by decide +kernel
abbrev b_Ed_init : ByteArray := prog_3_method_1_code
abbrev n_Ed_init : MethodName := ⟨"BeltRows$Edge", "<init>", "(IIII)V"⟩
theorem d_Ed_init_0 : decode b_Ed_init 0 = .ok (.aload_n 0, 1) := by decide +kernel
theorem d_Ed_init_1 : decode b_Ed_init 1 = .ok (.invokespecial 1, 3) := by decide +kernel
theorem d_Ed_init_4 : decode b_Ed_init 4 = .ok (.aload_n 0, 1) := by decide +kernel
theorem d_Ed_init_5 : decode b_Ed_init 5 = .ok (.iload_n 1, 1) := by decide +kernel
theorem d_Ed_init_6 : decode b_Ed_init 6 = .ok (.putfield 7, 3) := by decide +kernel
theorem d_Ed_init_9 : decode b_Ed_init 9 = .ok (.aload_n 0, 1) := by decide +kernel
theorem d_Ed_init_10 : decode b_Ed_init 10 = .ok (.iload_n 2, 1) := by decide +kernel
theorem d_Ed_init_11 : decode b_Ed_init 11 = .ok (.putfield 13, 3) := by decide +kernel
theorem d_Ed_init_14 : decode b_Ed_init 14 = .ok (.aload_n 0, 1) := by decide +kernel
theorem d_Ed_init_15 : decode b_Ed_init 15 = .ok (.iload_n 3, 1) := by decide +kernel
theorem d_Ed_init_16 : decode b_Ed_init 16 = .ok (.putfield 16, 3) := by decide +kernel
theorem d_Ed_init_19 : decode b_Ed_init 19 = .ok (.aload_n 0, 1) := by decide +kernel
theorem d_Ed_init_20 : decode b_Ed_init 20 = .ok (.iload 4, 2) := by decide +kernel
theorem d_Ed_init_22 : decode b_Ed_init 22 = .ok (.putfield 19, 3) := by decide +kernel
theorem d_Ed_init_25 : decode b_Ed_init 25 = .ok (.return_, 1) := by decide +kernel
abbrev b_Bt_wayInUse : ByteArray := prog_2_method_5_code
abbrev n_Bt_wayInUse : MethodName := ⟨"BeltRows$Belt", "wayInUse", "()LBeltRows$Way;"⟩
theorem d_Bt_wayInUse_0 : decode b_Bt_wayInUse 0 = .ok (.aload_n 0, 1) := by decide +kernel
theorem d_Bt_wayInUse_1 : decode b_Bt_wayInUse 1 = .ok (.invokevirtual 59, 3) := by decide +kernel
theorem d_Bt_wayInUse_4 : decode b_Bt_wayInUse 4 = .ok (.astore_n 1, 1) := by decide +kernel
theorem d_Bt_wayInUse_5 : decode b_Bt_wayInUse 5 = .ok (.aload_n 0, 1) := by decide +kernel
theorem d_Bt_wayInUse_6 : decode b_Bt_wayInUse 6 = .ok (.getfield 19, 3) := by decide +kernel
theorem d_Bt_wayInUse_9 : decode b_Bt_wayInUse 9 = .ok (.ifCond .eq 15, 3) := by decide +kernel
theorem d_Bt_wayInUse_12 : decode b_Bt_wayInUse 12 = .ok (.aload_n 1, 1) := by decide +kernel
theorem d_Bt_wayInUse_13 : decode b_Bt_wayInUse 13 = .ok (.ifnull 11, 3) := by decide +kernel
theorem d_Bt_wayInUse_16 : decode b_Bt_wayInUse 16 = .ok (.aload_n 0, 1) := by decide +kernel
theorem d_Bt_wayInUse_17 : decode b_Bt_wayInUse 17 = .ok (.aload_n 1, 1) := by decide +kernel
theorem d_Bt_wayInUse_18 : decode b_Bt_wayInUse 18 = .ok (.invokevirtual 63, 3) := by decide +kernel
theorem d_Bt_wayInUse_21 : decode b_Bt_wayInUse 21 = .ok (.goto 4, 3) := by decide +kernel
theorem d_Bt_wayInUse_24 : decode b_Bt_wayInUse 24 = .ok (.aconst_null, 1) := by decide +kernel
theorem d_Bt_wayInUse_25 : decode b_Bt_wayInUse 25 = .ok (.areturn, 1) := by decide +kernel
abbrev b_Wy_isDueBefore : ByteArray := prog_6_method_4_code
abbrev n_Wy_isDueBefore : MethodName := ⟨"BeltRows$Way", "isDueBefore", "(LBeltRows$Way;)Z"⟩
theorem d_Wy_isDueBefore_0 : decode b_Wy_isDueBefore 0 = .ok (.aload_n 0, 1) := by decide +kernel
theorem d_Wy_isDueBefore_1 : decode b_Wy_isDueBefore 1 = .ok (.getfield 19, 3) := by decide +kernel
theorem d_Wy_isDueBefore_4 : decode b_Wy_isDueBefore 4 = .ok (.aload_n 1, 1) := by decide +kernel
theorem d_Wy_isDueBefore_5 : decode b_Wy_isDueBefore 5 = .ok (.getfield 15, 3) := by decide +kernel
theorem d_Wy_isDueBefore_8 : decode b_Wy_isDueBefore 8 = .ok (.imul, 1) := by decide +kernel
theorem d_Wy_isDueBefore_9 : decode b_Wy_isDueBefore 9 = .ok (.aload_n 1, 1) := by decide +kernel
theorem d_Wy_isDueBefore_10 : decode b_Wy_isDueBefore 10 = .ok (.getfield 19, 3) := by decide +kernel
theorem d_Wy_isDueBefore_13 : decode b_Wy_isDueBefore 13 = .ok (.aload_n 0, 1) := by decide +kernel
theorem d_Wy_isDueBefore_14 : decode b_Wy_isDueBefore 14 = .ok (.getfield 15, 3) := by decide +kernel
theorem d_Wy_isDueBefore_17 : decode b_Wy_isDueBefore 17 = .ok (.imul, 1) := by decide +kernel
theorem d_Wy_isDueBefore_18 : decode b_Wy_isDueBefore 18 = .ok (.if_icmp .ge 7, 3) := by decide +kernel
theorem d_Wy_isDueBefore_21 : decode b_Wy_isDueBefore 21 = .ok (.iconst 1, 1) := by decide +kernel
theorem d_Wy_isDueBefore_22 : decode b_Wy_isDueBefore 22 = .ok (.goto 4, 3) := by decide +kernel
theorem d_Wy_isDueBefore_25 : decode b_Wy_isDueBefore 25 = .ok (.iconst 0, 1) := by decide +kernel
theorem d_Wy_isDueBefore_26 : decode b_Wy_isDueBefore 26 = .ok (.ireturn, 1) := by decide +kernel
abbrev b_It_goOn : ByteArray := prog_4_method_5_code
abbrev n_It_goOn : MethodName := ⟨"BeltRows$Item", "goOn", "(LBeltRows$Belt;I)V"⟩
theorem d_It_goOn_0 : decode b_It_goOn 0 = .ok (.aload_n 0, 1) := by decide +kernel
theorem d_It_goOn_1 : decode b_It_goOn 1 = .ok (.getfield 25, 3) := by decide +kernel
theorem d_It_goOn_4 : decode b_It_goOn 4 = .ok (.ifnonnull 10, 3) := by decide +kernel
theorem d_It_goOn_7 : decode b_It_goOn 7 = .ok (.aload_n 1, 1) := by decide +kernel
theorem d_It_goOn_8 : decode b_It_goOn 8 = .ok (.getfield 57, 3) := by decide +kernel
theorem d_It_goOn_11 : decode b_It_goOn 11 = .ok (.goto 19, 3) := by decide +kernel
theorem d_It_goOn_14 : decode b_It_goOn 14 = .ok (.aload_n 1, 1) := by decide +kernel
theorem d_It_goOn_15 : decode b_It_goOn 15 = .ok (.getfield 57, 3) := by decide +kernel
theorem d_It_goOn_18 : decode b_It_goOn 18 = .ok (.aload_n 0, 1) := by decide +kernel
theorem d_It_goOn_19 : decode b_It_goOn 19 = .ok (.getfield 25, 3) := by decide +kernel
theorem d_It_goOn_22 : decode b_It_goOn 22 = .ok (.invokevirtual 58, 3) := by decide +kernel
theorem d_It_goOn_25 : decode b_It_goOn 25 = .ok (.iload_n 2, 1) := by decide +kernel
theorem d_It_goOn_26 : decode b_It_goOn 26 = .ok (.isub, 1) := by decide +kernel
theorem d_It_goOn_27 : decode b_It_goOn 27 = .ok (.invokestatic 62, 3) := by decide +kernel
theorem d_It_goOn_30 : decode b_It_goOn 30 = .ok (.istore_n 3, 1) := by decide +kernel
theorem d_It_goOn_31 : decode b_It_goOn 31 = .ok (.aload_n 0, 1) := by decide +kernel
theorem d_It_goOn_32 : decode b_It_goOn 32 = .ok (.aload_n 0, 1) := by decide +kernel
theorem d_It_goOn_33 : decode b_It_goOn 33 = .ok (.getfield 35, 3) := by decide +kernel
theorem d_It_goOn_36 : decode b_It_goOn 36 = .ok (.aload_n 0, 1) := by decide +kernel
theorem d_It_goOn_37 : decode b_It_goOn 37 = .ok (.getfield 35, 3) := by decide +kernel
theorem d_It_goOn_40 : decode b_It_goOn 40 = .ok (.aload_n 1, 1) := by decide +kernel
theorem d_It_goOn_41 : decode b_It_goOn 41 = .ok (.getfield 68, 3) := by decide +kernel
theorem d_It_goOn_44 : decode b_It_goOn 44 = .ok (.iadd, 1) := by decide +kernel
theorem d_It_goOn_45 : decode b_It_goOn 45 = .ok (.iload_n 3, 1) := by decide +kernel
theorem d_It_goOn_46 : decode b_It_goOn 46 = .ok (.invokestatic 62, 3) := by decide +kernel
theorem d_It_goOn_49 : decode b_It_goOn 49 = .ok (.invokestatic 71, 3) := by decide +kernel
theorem d_It_goOn_52 : decode b_It_goOn 52 = .ok (.putfield 35, 3) := by decide +kernel
theorem d_It_goOn_55 : decode b_It_goOn 55 = .ok (.aload_n 0, 1) := by decide +kernel
theorem d_It_goOn_56 : decode b_It_goOn 56 = .ok (.aload_n 0, 1) := by decide +kernel
theorem d_It_goOn_57 : decode b_It_goOn 57 = .ok (.getfield 38, 3) := by decide +kernel
theorem d_It_goOn_60 : decode b_It_goOn 60 = .ok (.aload_n 1, 1) := by decide +kernel
theorem d_It_goOn_61 : decode b_It_goOn 61 = .ok (.getfield 68, 3) := by decide +kernel
theorem d_It_goOn_64 : decode b_It_goOn 64 = .ok (.iadd, 1) := by decide +kernel
theorem d_It_goOn_65 : decode b_It_goOn 65 = .ok (.aload_n 1, 1) := by decide +kernel
theorem d_It_goOn_66 : decode b_It_goOn 66 = .ok (.getfield 57, 3) := by decide +kernel
theorem d_It_goOn_69 : decode b_It_goOn 69 = .ok (.invokestatic 62, 3) := by decide +kernel
theorem d_It_goOn_72 : decode b_It_goOn 72 = .ok (.putfield 38, 3) := by decide +kernel
theorem d_It_goOn_75 : decode b_It_goOn 75 = .ok (.return_, 1) := by decide +kernel
abbrev b_Wy_nextNumber : ByteArray := prog_6_method_3_code
abbrev n_Wy_nextNumber : MethodName := ⟨"BeltRows$Way", "nextNumber", "()I"⟩
theorem d_Wy_nextNumber_0 : decode b_Wy_nextNumber 0 = .ok (.aload_n 0, 1) := by decide +kernel
theorem d_Wy_nextNumber_1 : decode b_Wy_nextNumber 1 = .ok (.getfield 9, 3) := by decide +kernel
theorem d_Wy_nextNumber_4 : decode b_Wy_nextNumber 4 = .ok (.ifnonnull 7, 3) := by decide +kernel
theorem d_Wy_nextNumber_7 : decode b_Wy_nextNumber 7 = .ok (.iconst (-1), 1) := by decide +kernel
theorem d_Wy_nextNumber_8 : decode b_Wy_nextNumber 8 = .ok (.goto 10, 3) := by decide +kernel
theorem d_Wy_nextNumber_11 : decode b_Wy_nextNumber 11 = .ok (.aload_n 0, 1) := by decide +kernel
theorem d_Wy_nextNumber_12 : decode b_Wy_nextNumber 12 = .ok (.getfield 9, 3) := by decide +kernel
theorem d_Wy_nextNumber_15 : decode b_Wy_nextNumber 15 = .ok (.getfield 22, 3) := by decide +kernel
theorem d_Wy_nextNumber_18 : decode b_Wy_nextNumber 18 = .ok (.ireturn, 1) := by decide +kernel
abbrev b_Al_init : ByteArray := prog_24_method_2_code
abbrev n_Al_init : MethodName := ⟨"java/util/ArrayList", "<init>", "()V"⟩
theorem d_Al_init_0 : decode b_Al_init 0 = .ok (.aload_n 0, 1) := by decide +kernel
theorem d_Al_init_1 : decode b_Al_init 1 = .ok (.invokespecial 1, 3) := by decide +kernel
theorem d_Al_init_4 : decode b_Al_init 4 = .ok (.aload_n 0, 1) := by decide +kernel
theorem d_Al_init_5 : decode b_Al_init 5 = .ok (.getstatic 39, 3) := by decide +kernel
theorem d_Al_init_8 : decode b_Al_init 8 = .ok (.putfield 9, 3) := by decide +kernel
theorem d_Al_init_11 : decode b_Al_init 11 = .ok (.return_, 1) := by decide +kernel
abbrev b_Bl_init : ByteArray := prog_23_method_1_code
abbrev n_Bl_init : MethodName := ⟨"java/util/AbstractList", "<init>", "()V"⟩
theorem d_Bl_init_0 : decode b_Bl_init 0 = .ok (.aload_n 0, 1) := by decide +kernel
theorem d_Bl_init_1 : decode b_Bl_init 1 = .ok (.invokespecial 1, 3) := by decide +kernel
theorem d_Bl_init_4 : decode b_Bl_init 4 = .ok (.aload_n 0, 1) := by decide +kernel
theorem d_Bl_init_5 : decode b_Bl_init 5 = .ok (.iconst 0, 1) := by decide +kernel
theorem d_Bl_init_6 : decode b_Bl_init 6 = .ok (.putfield 7, 3) := by decide +kernel
theorem d_Bl_init_9 : decode b_Bl_init 9 = .ok (.return_, 1) := by decide +kernel
abbrev b_Bc_init : ByteArray := prog_22_method_1_code
abbrev n_Bc_init : MethodName := ⟨"java/util/AbstractCollection", "<init>", "()V"⟩
theorem d_Bc_init_0 : decode b_Bc_init 0 = .ok (.aload_n 0, 1) := by decide +kernel
theorem d_Bc_init_1 : decode b_Bc_init 1 = .ok (.invokespecial 1, 3) := by decide +kernel
theorem d_Bc_init_4 : decode b_Bc_init 4 = .ok (.return_, 1) := by decide +kernel
abbrev b_Al_size : ByteArray := prog_24_method_8_code
abbrev n_Al_size : MethodName := ⟨"java/util/ArrayList", "size", "()I"⟩
theorem d_Al_size_0 : decode b_Al_size 0 = .ok (.aload_n 0, 1) := by decide +kernel
theorem d_Al_size_1 : decode b_Al_size 1 = .ok (.getfield 48, 3) := by decide +kernel
theorem d_Al_size_4 : decode b_Al_size 4 = .ok (.ireturn, 1) := by decide +kernel
abbrev b_Al_get : ByteArray := prog_24_method_20_code
abbrev n_Al_get : MethodName := ⟨"java/util/ArrayList", "get", "(I)Ljava/lang/Object;"⟩
theorem d_Al_get_0 : decode b_Al_get 0 = .ok (.iload_n 1, 1) := by decide +kernel
theorem d_Al_get_1 : decode b_Al_get 1 = .ok (.aload_n 0, 1) := by decide +kernel
theorem d_Al_get_2 : decode b_Al_get 2 = .ok (.getfield 48, 3) := by decide +kernel
theorem d_Al_get_5 : decode b_Al_get 5 = .ok (.invokestatic 118, 3) := by decide +kernel
theorem d_Al_get_8 : decode b_Al_get 8 = .ok (.pop, 1) := by decide +kernel
theorem d_Al_get_9 : decode b_Al_get 9 = .ok (.aload_n 0, 1) := by decide +kernel
theorem d_Al_get_10 : decode b_Al_get 10 = .ok (.iload_n 1, 1) := by decide +kernel
theorem d_Al_get_11 : decode b_Al_get 11 = .ok (.invokevirtual 123, 3) := by decide +kernel
theorem d_Al_get_14 : decode b_Al_get 14 = .ok (.areturn, 1) := by decide +kernel
abbrev b_Ob_checkIndex : ByteArray := prog_29_method_17_code
abbrev n_Ob_checkIndex : MethodName := ⟨"java/util/Objects", "checkIndex", "(II)I"⟩
theorem d_Ob_checkIndex_0 : decode b_Ob_checkIndex 0 = .ok (.iload_n 0, 1) := by decide +kernel
theorem d_Ob_checkIndex_1 : decode b_Ob_checkIndex 1 = .ok (.iload_n 1, 1) := by decide +kernel
theorem d_Ob_checkIndex_2 : decode b_Ob_checkIndex 2 = .ok (.aconst_null, 1) := by decide +kernel
theorem d_Ob_checkIndex_3 : decode b_Ob_checkIndex 3 = .ok (.invokestatic 105, 3) := by decide +kernel
theorem d_Ob_checkIndex_6 : decode b_Ob_checkIndex 6 = .ok (.ireturn, 1) := by decide +kernel
abbrev b_Pr_checkIndex : ByteArray := prog_33_method_11_code
abbrev n_Pr_checkIndex : MethodName := ⟨"jdk/internal/util/Preconditions", "checkIndex", "(IILjava/util/function/BiFunction;)I"⟩
theorem d_Pr_checkIndex_0 : decode b_Pr_checkIndex 0 = .ok (.iload_n 0, 1) := by decide +kernel
theorem d_Pr_checkIndex_1 : decode b_Pr_checkIndex 1 = .ok (.ifCond .lt 8, 3) := by decide +kernel
theorem d_Pr_checkIndex_4 : decode b_Pr_checkIndex 4 = .ok (.iload_n 0, 1) := by decide +kernel
theorem d_Pr_checkIndex_5 : decode b_Pr_checkIndex 5 = .ok (.iload_n 1, 1) := by decide +kernel
theorem d_Pr_checkIndex_6 : decode b_Pr_checkIndex 6 = .ok (.if_icmp .lt 10, 3) := by decide +kernel
theorem d_Pr_checkIndex_9 : decode b_Pr_checkIndex 9 = .ok (.aload_n 2, 1) := by decide +kernel
theorem d_Pr_checkIndex_10 : decode b_Pr_checkIndex 10 = .ok (.iload_n 0, 1) := by decide +kernel
theorem d_Pr_checkIndex_11 : decode b_Pr_checkIndex 11 = .ok (.iload_n 1, 1) := by decide +kernel
theorem d_Pr_checkIndex_12 : decode b_Pr_checkIndex 12 = .ok (.invokestatic 95, 3) := by decide +kernel
theorem d_Pr_checkIndex_15 : decode b_Pr_checkIndex 15 = .ok (.athrow, 1) := by decide +kernel
theorem d_Pr_checkIndex_16 : decode b_Pr_checkIndex 16 = .ok (.iload_n 0, 1) := by decide +kernel
theorem d_Pr_checkIndex_17 : decode b_Pr_checkIndex 17 = .ok (.ireturn, 1) := by decide +kernel
abbrev b_Al_elementData : ByteArray := prog_24_method_18_code
abbrev n_Al_elementData : MethodName := ⟨"java/util/ArrayList", "elementData", "(I)Ljava/lang/Object;"⟩
theorem d_Al_elementData_0 : decode b_Al_elementData 0 = .ok (.aload_n 0, 1) := by decide +kernel
theorem d_Al_elementData_1 : decode b_Al_elementData 1 = .ok (.getfield 9, 3) := by decide +kernel
theorem d_Al_elementData_4 : decode b_Al_elementData 4 = .ok (.iload_n 1, 1) := by decide +kernel
theorem d_Al_elementData_5 : decode b_Al_elementData 5 = .ok (.aaload, 1) := by decide +kernel
theorem d_Al_elementData_6 : decode b_Al_elementData 6 = .ok (.areturn, 1) := by decide +kernel
abbrev b_Al_add : ByteArray := prog_24_method_25_code
abbrev n_Al_add : MethodName := ⟨"java/util/ArrayList", "add", "(Ljava/lang/Object;)Z"⟩
theorem d_Al_add_0 : decode b_Al_add 0 = .ok (.aload_n 0, 1) := by decide +kernel
theorem d_Al_add_1 : decode b_Al_add 1 = .ok (.dup, 1) := by decide +kernel
theorem d_Al_add_2 : decode b_Al_add 2 = .ok (.getfield 63, 3) := by decide +kernel
theorem d_Al_add_5 : decode b_Al_add 5 = .ok (.iconst 1, 1) := by decide +kernel
theorem d_Al_add_6 : decode b_Al_add 6 = .ok (.iadd, 1) := by decide +kernel
theorem d_Al_add_7 : decode b_Al_add 7 = .ok (.putfield 63, 3) := by decide +kernel
theorem d_Al_add_10 : decode b_Al_add 10 = .ok (.aload_n 0, 1) := by decide +kernel
theorem d_Al_add_11 : decode b_Al_add 11 = .ok (.aload_n 1, 1) := by decide +kernel
theorem d_Al_add_12 : decode b_Al_add 12 = .ok (.aload_n 0, 1) := by decide +kernel
theorem d_Al_add_13 : decode b_Al_add 13 = .ok (.getfield 9, 3) := by decide +kernel
theorem d_Al_add_16 : decode b_Al_add 16 = .ok (.aload_n 0, 1) := by decide +kernel
theorem d_Al_add_17 : decode b_Al_add 17 = .ok (.getfield 48, 3) := by decide +kernel
theorem d_Al_add_20 : decode b_Al_add 20 = .ok (.invokevirtual 131, 3) := by decide +kernel
theorem d_Al_add_23 : decode b_Al_add 23 = .ok (.iconst 1, 1) := by decide +kernel
theorem d_Al_add_24 : decode b_Al_add 24 = .ok (.ireturn, 1) := by decide +kernel
abbrev b_Al_add2 : ByteArray := prog_24_method_24_code
abbrev n_Al_add2 : MethodName := ⟨"java/util/ArrayList", "add", "(Ljava/lang/Object;[Ljava/lang/Object;I)V"⟩
theorem d_Al_add2_0 : decode b_Al_add2 0 = .ok (.iload_n 3, 1) := by decide +kernel
theorem d_Al_add2_1 : decode b_Al_add2 1 = .ok (.aload_n 2, 1) := by decide +kernel
theorem d_Al_add2_2 : decode b_Al_add2 2 = .ok (.arraylength, 1) := by decide +kernel
theorem d_Al_add2_3 : decode b_Al_add2 3 = .ok (.if_icmp .ne 8, 3) := by decide +kernel
theorem d_Al_add2_6 : decode b_Al_add2 6 = .ok (.aload_n 0, 1) := by decide +kernel
theorem d_Al_add2_7 : decode b_Al_add2 7 = .ok (.invokevirtual 129, 3) := by decide +kernel
theorem d_Al_add2_10 : decode b_Al_add2 10 = .ok (.astore_n 2, 1) := by decide +kernel
theorem d_Al_add2_11 : decode b_Al_add2 11 = .ok (.aload_n 2, 1) := by decide +kernel
theorem d_Al_add2_12 : decode b_Al_add2 12 = .ok (.iload_n 3, 1) := by decide +kernel
theorem d_Al_add2_13 : decode b_Al_add2 13 = .ok (.aload_n 1, 1) := by decide +kernel
theorem d_Al_add2_14 : decode b_Al_add2 14 = .ok (.aastore, 1) := by decide +kernel
theorem d_Al_add2_15 : decode b_Al_add2 15 = .ok (.aload_n 0, 1) := by decide +kernel
theorem d_Al_add2_16 : decode b_Al_add2 16 = .ok (.iload_n 3, 1) := by decide +kernel
theorem d_Al_add2_17 : decode b_Al_add2 17 = .ok (.iconst 1, 1) := by decide +kernel
theorem d_Al_add2_18 : decode b_Al_add2 18 = .ok (.iadd, 1) := by decide +kernel
theorem d_Al_add2_19 : decode b_Al_add2 19 = .ok (.putfield 48, 3) := by decide +kernel
theorem d_Al_add2_22 : decode b_Al_add2 22 = .ok (.return_, 1) := by decide +kernel
abbrev b_Al_grow : ByteArray := prog_24_method_7_code
abbrev n_Al_grow : MethodName := ⟨"java/util/ArrayList", "grow", "()[Ljava/lang/Object;"⟩
theorem d_Al_grow_0 : decode b_Al_grow 0 = .ok (.aload_n 0, 1) := by decide +kernel
theorem d_Al_grow_1 : decode b_Al_grow 1 = .ok (.aload_n 0, 1) := by decide +kernel
theorem d_Al_grow_2 : decode b_Al_grow 2 = .ok (.getfield 48, 3) := by decide +kernel
theorem d_Al_grow_5 : decode b_Al_grow 5 = .ok (.iconst 1, 1) := by decide +kernel
theorem d_Al_grow_6 : decode b_Al_grow 6 = .ok (.iadd, 1) := by decide +kernel
theorem d_Al_grow_7 : decode b_Al_grow 7 = .ok (.invokevirtual 69, 3) := by decide +kernel
theorem d_Al_grow_10 : decode b_Al_grow 10 = .ok (.areturn, 1) := by decide +kernel
abbrev b_Al_grow2 : ByteArray := prog_24_method_6_code
abbrev n_Al_grow2 : MethodName := ⟨"java/util/ArrayList", "grow", "(I)[Ljava/lang/Object;"⟩
theorem d_Al_grow2_0 : decode b_Al_grow2 0 = .ok (.aload_n 0, 1) := by decide +kernel
theorem d_Al_grow2_1 : decode b_Al_grow2 1 = .ok (.getfield 9, 3) := by decide +kernel
theorem d_Al_grow2_4 : decode b_Al_grow2 4 = .ok (.arraylength, 1) := by decide +kernel
theorem d_Al_grow2_5 : decode b_Al_grow2 5 = .ok (.istore_n 2, 1) := by decide +kernel
theorem d_Al_grow2_6 : decode b_Al_grow2 6 = .ok (.iload_n 2, 1) := by decide +kernel
theorem d_Al_grow2_7 : decode b_Al_grow2 7 = .ok (.ifCond .gt 13, 3) := by decide +kernel
theorem d_Al_grow2_10 : decode b_Al_grow2 10 = .ok (.aload_n 0, 1) := by decide +kernel
theorem d_Al_grow2_11 : decode b_Al_grow2 11 = .ok (.getfield 9, 3) := by decide +kernel
theorem d_Al_grow2_14 : decode b_Al_grow2 14 = .ok (.getstatic 39, 3) := by decide +kernel
theorem d_Al_grow2_17 : decode b_Al_grow2 17 = .ok (.if_acmp .eq 28, 3) := by decide +kernel
theorem d_Al_grow2_20 : decode b_Al_grow2 20 = .ok (.iload_n 2, 1) := by decide +kernel
theorem d_Al_grow2_21 : decode b_Al_grow2 21 = .ok (.iload_n 1, 1) := by decide +kernel
theorem d_Al_grow2_22 : decode b_Al_grow2 22 = .ok (.iload_n 2, 1) := by decide +kernel
theorem d_Al_grow2_23 : decode b_Al_grow2 23 = .ok (.isub, 1) := by decide +kernel
theorem d_Al_grow2_24 : decode b_Al_grow2 24 = .ok (.iload_n 2, 1) := by decide +kernel
theorem d_Al_grow2_25 : decode b_Al_grow2 25 = .ok (.iconst 1, 1) := by decide +kernel
theorem d_Al_grow2_26 : decode b_Al_grow2 26 = .ok (.ishr, 1) := by decide +kernel
theorem d_Al_grow2_27 : decode b_Al_grow2 27 = .ok (.invokestatic 73, 3) := by decide +kernel
theorem d_Al_grow2_30 : decode b_Al_grow2 30 = .ok (.istore_n 3, 1) := by decide +kernel
theorem d_Al_grow2_31 : decode b_Al_grow2 31 = .ok (.aload_n 0, 1) := by decide +kernel
theorem d_Al_grow2_32 : decode b_Al_grow2 32 = .ok (.aload_n 0, 1) := by decide +kernel
theorem d_Al_grow2_33 : decode b_Al_grow2 33 = .ok (.getfield 9, 3) := by decide +kernel
theorem d_Al_grow2_36 : decode b_Al_grow2 36 = .ok (.iload_n 3, 1) := by decide +kernel
theorem d_Al_grow2_37 : decode b_Al_grow2 37 = .ok (.invokestatic 66, 3) := by decide +kernel
theorem d_Al_grow2_40 : decode b_Al_grow2 40 = .ok (.dup_x1, 1) := by decide +kernel
theorem d_Al_grow2_41 : decode b_Al_grow2 41 = .ok (.putfield 9, 3) := by decide +kernel
theorem d_Al_grow2_44 : decode b_Al_grow2 44 = .ok (.areturn, 1) := by decide +kernel
theorem d_Al_grow2_45 : decode b_Al_grow2 45 = .ok (.aload_n 0, 1) := by decide +kernel
theorem d_Al_grow2_46 : decode b_Al_grow2 46 = .ok (.bipush 10, 2) := by decide +kernel
theorem d_Al_grow2_48 : decode b_Al_grow2 48 = .ok (.iload_n 1, 1) := by decide +kernel
theorem d_Al_grow2_49 : decode b_Al_grow2 49 = .ok (.invokestatic 79, 3) := by decide +kernel
theorem d_Al_grow2_52 : decode b_Al_grow2 52 = .ok (.anewarray 7, 3) := by decide +kernel
theorem d_Al_grow2_55 : decode b_Al_grow2 55 = .ok (.dup_x1, 1) := by decide +kernel
theorem d_Al_grow2_56 : decode b_Al_grow2 56 = .ok (.putfield 9, 3) := by decide +kernel
theorem d_Al_grow2_59 : decode b_Al_grow2 59 = .ok (.areturn, 1) := by decide +kernel
abbrev b_Au_newLength : ByteArray := prog_32_method_27_code
abbrev n_Au_newLength : MethodName := ⟨"jdk/internal/util/ArraysSupport", "newLength", "(III)I"⟩
theorem d_Au_newLength_0 : decode b_Au_newLength 0 = .ok (.iload_n 0, 1) := by decide +kernel
theorem d_Au_newLength_1 : decode b_Au_newLength 1 = .ok (.iload_n 1, 1) := by decide +kernel
theorem d_Au_newLength_2 : decode b_Au_newLength 2 = .ok (.iload_n 2, 1) := by decide +kernel
theorem d_Au_newLength_3 : decode b_Au_newLength 3 = .ok (.invokestatic 194, 3) := by decide +kernel
theorem d_Au_newLength_6 : decode b_Au_newLength 6 = .ok (.iadd, 1) := by decide +kernel
theorem d_Au_newLength_7 : decode b_Au_newLength 7 = .ok (.istore_n 3, 1) := by decide +kernel
theorem d_Au_newLength_8 : decode b_Au_newLength 8 = .ok (.iconst 0, 1) := by decide +kernel
theorem d_Au_newLength_9 : decode b_Au_newLength 9 = .ok (.iload_n 3, 1) := by decide +kernel
theorem d_Au_newLength_10 : decode b_Au_newLength 10 = .ok (.if_icmp .ge 11, 3) := by decide +kernel
theorem d_Au_newLength_13 : decode b_Au_newLength 13 = .ok (.iload_n 3, 1) := by decide +kernel
theorem d_Au_newLength_14 : decode b_Au_newLength 14 = .ok (.ldc 200, 2) := by decide +kernel
theorem d_Au_newLength_16 : decode b_Au_newLength 16 = .ok (.if_icmp .gt 5, 3) := by decide +kernel
theorem d_Au_newLength_19 : decode b_Au_newLength 19 = .ok (.iload_n 3, 1) := by decide +kernel
theorem d_Au_newLength_20 : decode b_Au_newLength 20 = .ok (.ireturn, 1) := by decide +kernel
theorem d_Au_newLength_21 : decode b_Au_newLength 21 = .ok (.iload_n 0, 1) := by decide +kernel
theorem d_Au_newLength_22 : decode b_Au_newLength 22 = .ok (.iload_n 1, 1) := by decide +kernel
theorem d_Au_newLength_23 : decode b_Au_newLength 23 = .ok (.invokestatic 201, 3) := by decide +kernel
theorem d_Au_newLength_26 : decode b_Au_newLength 26 = .ok (.ireturn, 1) := by decide +kernel
abbrev b_Ma_max : ByteArray := prog_16_method_65_code
abbrev n_Ma_max : MethodName := ⟨"java/lang/Math", "max", "(II)I"⟩
theorem d_Ma_max_0 : decode b_Ma_max 0 = .ok (.iload_n 0, 1) := by decide +kernel
theorem d_Ma_max_1 : decode b_Ma_max 1 = .ok (.iload_n 1, 1) := by decide +kernel
theorem d_Ma_max_2 : decode b_Ma_max 2 = .ok (.if_icmp .lt 7, 3) := by decide +kernel
theorem d_Ma_max_5 : decode b_Ma_max 5 = .ok (.iload_n 0, 1) := by decide +kernel
theorem d_Ma_max_6 : decode b_Ma_max 6 = .ok (.goto 4, 3) := by decide +kernel
theorem d_Ma_max_9 : decode b_Ma_max 9 = .ok (.iload_n 1, 1) := by decide +kernel
theorem d_Ma_max_10 : decode b_Ma_max 10 = .ok (.ireturn, 1) := by decide +kernel
abbrev b_Au_hugeLength : ByteArray := prog_32_method_28_code
abbrev n_Au_hugeLength : MethodName := ⟨"jdk/internal/util/ArraysSupport", "hugeLength", "(II)I"⟩
theorem d_Au_hugeLength_0 : decode b_Au_hugeLength 0 = .ok (.iload_n 0, 1) := by decide +kernel
theorem d_Au_hugeLength_1 : decode b_Au_hugeLength 1 = .ok (.iload_n 1, 1) := by decide +kernel
theorem d_Au_hugeLength_2 : decode b_Au_hugeLength 2 = .ok (.iadd, 1) := by decide +kernel
theorem d_Au_hugeLength_3 : decode b_Au_hugeLength 3 = .ok (.istore_n 2, 1) := by decide +kernel
theorem d_Au_hugeLength_4 : decode b_Au_hugeLength 4 = .ok (.iload_n 2, 1) := by decide +kernel
theorem d_Au_hugeLength_5 : decode b_Au_hugeLength 5 = .ok (.ifCond .ge 44, 3) := by decide +kernel
theorem d_Au_hugeLength_8 : decode b_Au_hugeLength 8 = .ok (.new 204, 3) := by decide +kernel
theorem d_Au_hugeLength_11 : decode b_Au_hugeLength 11 = .ok (.dup, 1) := by decide +kernel
theorem d_Au_hugeLength_12 : decode b_Au_hugeLength 12 = .ok (.new 89, 3) := by decide +kernel
theorem d_Au_hugeLength_15 : decode b_Au_hugeLength 15 = .ok (.dup, 1) := by decide +kernel
theorem d_Au_hugeLength_16 : decode b_Au_hugeLength 16 = .ok (.invokespecial 91, 3) := by decide +kernel
theorem d_Au_hugeLength_19 : decode b_Au_hugeLength 19 = .ok (.ldc 206, 2) := by decide +kernel
theorem d_Au_hugeLength_21 : decode b_Au_hugeLength 21 = .ok (.invokevirtual 94, 3) := by decide +kernel
theorem d_Au_hugeLength_24 : decode b_Au_hugeLength 24 = .ok (.iload_n 0, 1) := by decide +kernel
theorem d_Au_hugeLength_25 : decode b_Au_hugeLength 25 = .ok (.invokevirtual 98, 3) := by decide +kernel
theorem d_Au_hugeLength_28 : decode b_Au_hugeLength 28 = .ok (.ldc 208, 2) := by decide +kernel
theorem d_Au_hugeLength_30 : decode b_Au_hugeLength 30 = .ok (.invokevirtual 94, 3) := by decide +kernel
theorem d_Au_hugeLength_33 : decode b_Au_hugeLength 33 = .ok (.iload_n 1, 1) := by decide +kernel
theorem d_Au_hugeLength_34 : decode b_Au_hugeLength 34 = .ok (.invokevirtual 98, 3) := by decide +kernel
theorem d_Au_hugeLength_37 : decode b_Au_hugeLength 37 = .ok (.ldc 210, 2) := by decide +kernel
theorem d_Au_hugeLength_39 : decode b_Au_hugeLength 39 = .ok (.invokevirtual 94, 3) := by decide +kernel
theorem d_Au_hugeLength_42 : decode b_Au_hugeLength 42 = .ok (.invokevirtual 101, 3) := by decide +kernel
theorem d_Au_hugeLength_45 : decode b_Au_hugeLength 45 = .ok (.invokespecial 212, 3) := by decide +kernel
theorem d_Au_hugeLength_48 : decode b_Au_hugeLength 48 = .ok (.athrow, 1) := by decide +kernel
theorem d_Au_hugeLength_49 : decode b_Au_hugeLength 49 = .ok (.iload_n 2, 1) := by decide +kernel
theorem d_Au_hugeLength_50 : decode b_Au_hugeLength 50 = .ok (.ldc 200, 2) := by decide +kernel
theorem d_Au_hugeLength_52 : decode b_Au_hugeLength 52 = .ok (.if_icmp .gt 6, 3) := by decide +kernel
theorem d_Au_hugeLength_55 : decode b_Au_hugeLength 55 = .ok (.ldc 200, 2) := by decide +kernel
theorem d_Au_hugeLength_57 : decode b_Au_hugeLength 57 = .ok (.ireturn, 1) := by decide +kernel
theorem d_Au_hugeLength_58 : decode b_Au_hugeLength 58 = .ok (.iload_n 2, 1) := by decide +kernel
theorem d_Au_hugeLength_59 : decode b_Au_hugeLength 59 = .ok (.ireturn, 1) := by decide +kernel
abbrev b_As_copyOf : ByteArray := prog_25_method_119_code
abbrev n_As_copyOf : MethodName := ⟨"java/util/Arrays", "copyOf", "([Ljava/lang/Object;I)[Ljava/lang/Object;"⟩
theorem d_As_copyOf_0 : decode b_As_copyOf 0 = .ok (.aload_n 0, 1) := by decide +kernel
theorem d_As_copyOf_1 : decode b_As_copyOf 1 = .ok (.iload_n 1, 1) := by decide +kernel
theorem d_As_copyOf_2 : decode b_As_copyOf 2 = .ok (.aload_n 0, 1) := by decide +kernel
theorem d_As_copyOf_3 : decode b_As_copyOf 3 = .ok (.invokevirtual 86, 3) := by decide +kernel
theorem d_As_copyOf_6 : decode b_As_copyOf 6 = .ok (.invokestatic 300, 3) := by decide +kernel
theorem d_As_copyOf_9 : decode b_As_copyOf 9 = .ok (.areturn, 1) := by decide +kernel
abbrev b_As_copyOf2 : ByteArray := prog_25_method_120_code
abbrev n_As_copyOf2 : MethodName := ⟨"java/util/Arrays", "copyOf", "([Ljava/lang/Object;ILjava/lang/Class;)[Ljava/lang/Object;"⟩
theorem d_As_copyOf2_0 : decode b_As_copyOf2 0 = .ok (.aload_n 2, 1) := by decide +kernel
theorem d_As_copyOf2_1 : decode b_As_copyOf2 1 = .ok (.ldc 110, 2) := by decide +kernel
theorem d_As_copyOf2_3 : decode b_As_copyOf2 3 = .ok (.if_acmp .ne 10, 3) := by decide +kernel
theorem d_As_copyOf2_6 : decode b_As_copyOf2 6 = .ok (.iload_n 1, 1) := by decide +kernel
theorem d_As_copyOf2_7 : decode b_As_copyOf2 7 = .ok (.anewarray 2, 3) := by decide +kernel
theorem d_As_copyOf2_10 : decode b_As_copyOf2 10 = .ok (.goto 14, 3) := by decide +kernel
theorem d_As_copyOf2_13 : decode b_As_copyOf2 13 = .ok (.aload_n 2, 1) := by decide +kernel
theorem d_As_copyOf2_14 : decode b_As_copyOf2 14 = .ok (.invokevirtual 90, 3) := by decide +kernel
theorem d_As_copyOf2_17 : decode b_As_copyOf2 17 = .ok (.iload_n 1, 1) := by decide +kernel
theorem d_As_copyOf2_18 : decode b_As_copyOf2 18 = .ok (.invokestatic 95, 3) := by decide +kernel
theorem d_As_copyOf2_21 : decode b_As_copyOf2 21 = .ok (.checkcast 110, 3) := by decide +kernel
theorem d_As_copyOf2_24 : decode b_As_copyOf2 24 = .ok (.astore_n 3, 1) := by decide +kernel
theorem d_As_copyOf2_25 : decode b_As_copyOf2 25 = .ok (.aload_n 0, 1) := by decide +kernel
theorem d_As_copyOf2_26 : decode b_As_copyOf2 26 = .ok (.iconst 0, 1) := by decide +kernel
theorem d_As_copyOf2_27 : decode b_As_copyOf2 27 = .ok (.aload_n 3, 1) := by decide +kernel
theorem d_As_copyOf2_28 : decode b_As_copyOf2 28 = .ok (.iconst 0, 1) := by decide +kernel
theorem d_As_copyOf2_29 : decode b_As_copyOf2 29 = .ok (.aload_n 0, 1) := by decide +kernel
theorem d_As_copyOf2_30 : decode b_As_copyOf2 30 = .ok (.arraylength, 1) := by decide +kernel
theorem d_As_copyOf2_31 : decode b_As_copyOf2 31 = .ok (.iload_n 1, 1) := by decide +kernel
theorem d_As_copyOf2_32 : decode b_As_copyOf2 32 = .ok (.invokestatic 304, 3) := by decide +kernel
theorem d_As_copyOf2_35 : decode b_As_copyOf2 35 = .ok (.invokestatic 150, 3) := by decide +kernel
theorem d_As_copyOf2_38 : decode b_As_copyOf2 38 = .ok (.aload_n 3, 1) := by decide +kernel
theorem d_As_copyOf2_39 : decode b_As_copyOf2 39 = .ok (.areturn, 1) := by decide +kernel
abbrev b_Ma_min : ByteArray := prog_16_method_69_code
abbrev n_Ma_min : MethodName := ⟨"java/lang/Math", "min", "(II)I"⟩
theorem d_Ma_min_0 : decode b_Ma_min 0 = .ok (.iload_n 0, 1) := by decide +kernel
theorem d_Ma_min_1 : decode b_Ma_min 1 = .ok (.iload_n 1, 1) := by decide +kernel
theorem d_Ma_min_2 : decode b_Ma_min 2 = .ok (.if_icmp .gt 7, 3) := by decide +kernel
theorem d_Ma_min_5 : decode b_Ma_min 5 = .ok (.iload_n 0, 1) := by decide +kernel
theorem d_Ma_min_6 : decode b_Ma_min 6 = .ok (.goto 4, 3) := by decide +kernel
theorem d_Ma_min_9 : decode b_Ma_min 9 = .ok (.iload_n 1, 1) := by decide +kernel
theorem d_Ma_min_10 : decode b_Ma_min 10 = .ok (.ireturn, 1) := by decide +kernel
abbrev b_Al_set : ByteArray := prog_24_method_23_code
abbrev n_Al_set : MethodName := ⟨"java/util/ArrayList", "set", "(ILjava/lang/Object;)Ljava/lang/Object;"⟩
theorem d_Al_set_0 : decode b_Al_set 0 = .ok (.iload_n 1, 1) := by decide +kernel
theorem d_Al_set_1 : decode b_Al_set 1 = .ok (.aload_n 0, 1) := by decide +kernel
theorem d_Al_set_2 : decode b_Al_set 2 = .ok (.getfield 48, 3) := by decide +kernel
theorem d_Al_set_5 : decode b_Al_set 5 = .ok (.invokestatic 118, 3) := by decide +kernel
theorem d_Al_set_8 : decode b_Al_set 8 = .ok (.pop, 1) := by decide +kernel
theorem d_Al_set_9 : decode b_Al_set 9 = .ok (.aload_n 0, 1) := by decide +kernel
theorem d_Al_set_10 : decode b_Al_set 10 = .ok (.iload_n 1, 1) := by decide +kernel
theorem d_Al_set_11 : decode b_Al_set 11 = .ok (.invokevirtual 123, 3) := by decide +kernel
theorem d_Al_set_14 : decode b_Al_set 14 = .ok (.astore_n 3, 1) := by decide +kernel
theorem d_Al_set_15 : decode b_Al_set 15 = .ok (.aload_n 0, 1) := by decide +kernel
theorem d_Al_set_16 : decode b_Al_set 16 = .ok (.getfield 9, 3) := by decide +kernel
theorem d_Al_set_19 : decode b_Al_set 19 = .ok (.iload_n 1, 1) := by decide +kernel
theorem d_Al_set_20 : decode b_Al_set 20 = .ok (.aload_n 2, 1) := by decide +kernel
theorem d_Al_set_21 : decode b_Al_set 21 = .ok (.aastore, 1) := by decide +kernel
theorem d_Al_set_22 : decode b_Al_set 22 = .ok (.aload_n 3, 1) := by decide +kernel
theorem d_Al_set_23 : decode b_Al_set 23 = .ok (.areturn, 1) := by decide +kernel
abbrev b_Al_remove : ByteArray := prog_24_method_29_code
abbrev n_Al_remove : MethodName := ⟨"java/util/ArrayList", "remove", "(I)Ljava/lang/Object;"⟩
theorem d_Al_remove_0 : decode b_Al_remove 0 = .ok (.iload_n 1, 1) := by decide +kernel
theorem d_Al_remove_1 : decode b_Al_remove 1 = .ok (.aload_n 0, 1) := by decide +kernel
theorem d_Al_remove_2 : decode b_Al_remove 2 = .ok (.getfield 48, 3) := by decide +kernel
theorem d_Al_remove_5 : decode b_Al_remove 5 = .ok (.invokestatic 118, 3) := by decide +kernel
theorem d_Al_remove_8 : decode b_Al_remove 8 = .ok (.pop, 1) := by decide +kernel
theorem d_Al_remove_9 : decode b_Al_remove 9 = .ok (.aload_n 0, 1) := by decide +kernel
theorem d_Al_remove_10 : decode b_Al_remove 10 = .ok (.getfield 9, 3) := by decide +kernel
theorem d_Al_remove_13 : decode b_Al_remove 13 = .ok (.astore_n 2, 1) := by decide +kernel
theorem d_Al_remove_14 : decode b_Al_remove 14 = .ok (.aload_n 2, 1) := by decide +kernel
theorem d_Al_remove_15 : decode b_Al_remove 15 = .ok (.iload_n 1, 1) := by decide +kernel
theorem d_Al_remove_16 : decode b_Al_remove 16 = .ok (.aaload, 1) := by decide +kernel
theorem d_Al_remove_17 : decode b_Al_remove 17 = .ok (.astore_n 3, 1) := by decide +kernel
theorem d_Al_remove_18 : decode b_Al_remove 18 = .ok (.aload_n 0, 1) := by decide +kernel
theorem d_Al_remove_19 : decode b_Al_remove 19 = .ok (.aload_n 2, 1) := by decide +kernel
theorem d_Al_remove_20 : decode b_Al_remove 20 = .ok (.iload_n 1, 1) := by decide +kernel
theorem d_Al_remove_21 : decode b_Al_remove 21 = .ok (.invokevirtual 144, 3) := by decide +kernel
theorem d_Al_remove_24 : decode b_Al_remove 24 = .ok (.aload_n 3, 1) := by decide +kernel
theorem d_Al_remove_25 : decode b_Al_remove 25 = .ok (.areturn, 1) := by decide +kernel
abbrev b_Al_fastRemove : ByteArray := prog_24_method_39_code
abbrev n_Al_fastRemove : MethodName := ⟨"java/util/ArrayList", "fastRemove", "([Ljava/lang/Object;I)V"⟩
theorem d_Al_fastRemove_0 : decode b_Al_fastRemove 0 = .ok (.aload_n 0, 1) := by decide +kernel
theorem d_Al_fastRemove_1 : decode b_Al_fastRemove 1 = .ok (.dup, 1) := by decide +kernel
theorem d_Al_fastRemove_2 : decode b_Al_fastRemove 2 = .ok (.getfield 63, 3) := by decide +kernel
theorem d_Al_fastRemove_5 : decode b_Al_fastRemove 5 = .ok (.iconst 1, 1) := by decide +kernel
theorem d_Al_fastRemove_6 : decode b_Al_fastRemove 6 = .ok (.iadd, 1) := by decide +kernel
theorem d_Al_fastRemove_7 : decode b_Al_fastRemove 7 = .ok (.putfield 63, 3) := by decide +kernel
theorem d_Al_fastRemove_10 : decode b_Al_fastRemove 10 = .ok (.aload_n 0, 1) := by decide +kernel
theorem d_Al_fastRemove_11 : decode b_Al_fastRemove 11 = .ok (.getfield 48, 3) := by decide +kernel
theorem d_Al_fastRemove_14 : decode b_Al_fastRemove 14 = .ok (.iconst 1, 1) := by decide +kernel
theorem d_Al_fastRemove_15 : decode b_Al_fastRemove 15 = .ok (.isub, 1) := by decide +kernel
theorem d_Al_fastRemove_16 : decode b_Al_fastRemove 16 = .ok (.dup, 1) := by decide +kernel
theorem d_Al_fastRemove_17 : decode b_Al_fastRemove 17 = .ok (.istore_n 3, 1) := by decide +kernel
theorem d_Al_fastRemove_18 : decode b_Al_fastRemove 18 = .ok (.iload_n 2, 1) := by decide +kernel
theorem d_Al_fastRemove_19 : decode b_Al_fastRemove 19 = .ok (.if_icmp .le 15, 3) := by decide +kernel
theorem d_Al_fastRemove_22 : decode b_Al_fastRemove 22 = .ok (.aload_n 1, 1) := by decide +kernel
theorem d_Al_fastRemove_23 : decode b_Al_fastRemove 23 = .ok (.iload_n 2, 1) := by decide +kernel
theorem d_Al_fastRemove_24 : decode b_Al_fastRemove 24 = .ok (.iconst 1, 1) := by decide +kernel
theorem d_Al_fastRemove_25 : decode b_Al_fastRemove 25 = .ok (.iadd, 1) := by decide +kernel
theorem d_Al_fastRemove_26 : decode b_Al_fastRemove 26 = .ok (.aload_n 1, 1) := by decide +kernel
theorem d_Al_fastRemove_27 : decode b_Al_fastRemove 27 = .ok (.iload_n 2, 1) := by decide +kernel
theorem d_Al_fastRemove_28 : decode b_Al_fastRemove 28 = .ok (.iload_n 3, 1) := by decide +kernel
theorem d_Al_fastRemove_29 : decode b_Al_fastRemove 29 = .ok (.iload_n 2, 1) := by decide +kernel
theorem d_Al_fastRemove_30 : decode b_Al_fastRemove 30 = .ok (.isub, 1) := by decide +kernel
theorem d_Al_fastRemove_31 : decode b_Al_fastRemove 31 = .ok (.invokestatic 112, 3) := by decide +kernel
theorem d_Al_fastRemove_34 : decode b_Al_fastRemove 34 = .ok (.aload_n 1, 1) := by decide +kernel
theorem d_Al_fastRemove_35 : decode b_Al_fastRemove 35 = .ok (.aload_n 0, 1) := by decide +kernel
theorem d_Al_fastRemove_36 : decode b_Al_fastRemove 36 = .ok (.iload_n 3, 1) := by decide +kernel
theorem d_Al_fastRemove_37 : decode b_Al_fastRemove 37 = .ok (.dup_x1, 1) := by decide +kernel
theorem d_Al_fastRemove_38 : decode b_Al_fastRemove 38 = .ok (.putfield 48, 3) := by decide +kernel
theorem d_Al_fastRemove_41 : decode b_Al_fastRemove 41 = .ok (.aconst_null, 1) := by decide +kernel
theorem d_Al_fastRemove_42 : decode b_Al_fastRemove 42 = .ok (.aastore, 1) := by decide +kernel
theorem d_Al_fastRemove_43 : decode b_Al_fastRemove 43 = .ok (.return_, 1) := by decide +kernel
end
section
/-! WHAT IS CARRIED, THE CONTRACT, CALLS AND ENDS -/
def STRS : List (String × Nat × String) := [("BeltRows", 225, "a number is outside its range"), ("BeltRows", 51, "no room for another belt"), ("BeltRows", 229, "no such belt"), ("BeltRows", 70, "the next belt did not come later"), ("BeltRows", 97, "no room for another scanner"), ("BeltRows", 104, "no room for another item"), ("BeltRows", 231, "no such item"), ("BeltRows", 227, "the item is on no belt"), ("BeltRows", 137, "no such edge"), ("BeltRows", 158, "nothing of an edge has this number"), ("BeltRows", 165, "the item would be before the start"), ("BeltRows", 175, "the item behind would be too near"), ("BeltRows", 181, "the belt runs"), ("BeltRows", 192, "these are not two items of one belt"), ("BeltRows", 205, "nothing of an item has this number"), ("BeltRows", 213, "nothing of a belt has this number"), ("BeltRows", 215, "not so many items went out"), ("BeltRows", 219, "/ by zero")]
def CASTS : List (String × String) := [("java/lang/IllegalArgumentException", "java/lang/IllegalArgumentException"), ("java/lang/UnsupportedOperationException", "java/lang/UnsupportedOperationException"), ("java/util/NoSuchElementException", "java/util/NoSuchElementException"), ("java/lang/IllegalStateException", "java/lang/IllegalStateException"), ("java/lang/ArithmeticException", "java/lang/ArithmeticException"), ("BeltRows$Belt", "BeltRows$Belt"), ("BeltRows$Item", "BeltRows$Item"), ("BeltRows$Edge", "BeltRows$Edge"), ("BeltRows$Scanner", "BeltRows$Scanner"), ("BeltRows", "java/lang/Object"), ("BeltRowsModel", "java/lang/Object"), ("BeltRows$Belt", "java/lang/Object"), ("BeltRows$Way", "java/lang/Object"), ("BeltRows$Scanner", "java/lang/Object"), ("BeltRows$Item", "java/lang/Object"), ("BeltRows$Edge", "java/lang/Object"), ("java/lang/String", "java/lang/Object")]
def DECLS : List MethodName := [⟨"java/lang/RuntimeException", "<init>", "()V"⟩, ⟨"java/lang/RuntimeException", "<init>", "(Ljava/lang/String;)V"⟩, ⟨"java/lang/Exception", "<init>", "()V"⟩, ⟨"java/lang/Exception", "<init>", "(Ljava/lang/String;)V"⟩, ⟨"java/lang/Throwable", "<init>", "()V"⟩, ⟨"java/lang/Throwable", "<init>", "(Ljava/lang/String;)V"⟩, ⟨"java/lang/Object", "getClass", "()Ljava/lang/Class;"⟩]
/-- words that don't keep, by the tables alone -/
def SV (mi : Nat) (U : State) : Prop := (∀ q ∈ STRS, ∃ sa : Nat, vk_R q.1 q.2.1 q.2.2 sa U) ∧ (∀ q ∈ CASTS, va_Nw (.castable q.1 q.2) U) ∧ (∀ y ∈ DECLS, va_Nw (.declares y) U) ∧ va_AO "java/lang/Object" U ∧ va_Mi "[Ljava/lang/Object;" mi U
theorem SV.warm {mi : Nat} {s U : State} (hW : s.WarmedH U.vm) (h : SV mi s) : SV mi U :=
  ⟨fun q hq => by obtain ⟨sa, h1⟩ := h.1 q hq; exact ⟨sa, h1.warm hW⟩, fun q hq => (h.2.1 q hq).warmC hW, fun y hy => (h.2.2.1 y hy).warmD hW, h.2.2.2.1.moved hW.alike, h.2.2.2.2.moved hW.alike⟩
theorem SV.same {mi : Nat} {s U : State} (hv : U.vm = s.vm) (h : SV mi s) : SV mi U :=
  ⟨fun q hq => by obtain ⟨sa, h1⟩ := h.1 q hq; exact ⟨sa, h1.same hv⟩, fun q hq => (h.2.1 q hq).same rfl hv.symm, fun y hy => (h.2.2.1 y hy).same rfl hv.symm, h.2.2.2.1.moved (by rw [hv]; exact Vm.Alike.refl _), h.2.2.2.2.moved (by rw [hv]; exact Vm.Alike.refl _)⟩
/-- statics that nobody writes, and the empty array of ArrayList -/
def SH (e0 : Nat) (A : Nat → Prop) (U : State) (H : Heap) : Prop := vx_Zq Bundle.tN "UNASSIGNED_STACK" Bundle.steD A U H ∧ vx_Zq Bundle.tN "SUPPRESSED_SENTINEL" Bundle.listD A U H ∧ va_Z "java/util/ArrayList" "DEFAULTCAPACITY_EMPTY_ELEMENTDATA" "[Ljava/lang/Object;" (.ref e0) A U H ∧ va_T (.object "java/lang/Object") e0 0 (fun _ => .null) A U H
theorem SH.moved {e0 : Nat} {A : Nat → Prop} {u U : State} {H : Heap} (hvm : u.vm.Alike U.vm) (h : SH e0 A u H) : SH e0 A U H := ⟨h.1.moved hvm, h.2.1.moved hvm, h.2.2.1.moved hvm, h.2.2.2.moved hvm⟩
theorem SH.kept {e0 : Nat} {A : Nat → Prop} {U : State} {H H1 : Heap} (hq : ∀ a : Nat, a < H.size → ¬ A a → H1[a]? = H[a]?) (h : SH e0 A U H) : SH e0 A U H1 := ⟨h.1.kept hq, h.2.1.kept hq, h.2.2.1.kept hq, h.2.2.2.kept hq⟩
theorem SH.narrow {e0 : Nat} {A B : Nat → Prop} {U : State} {H : Heap} (hAB : ∀ q, B q → A q) (h : SH e0 A U H) : SH e0 B U H := ⟨h.1.narrow hAB, h.2.1.narrow hAB, h.2.2.1.narrow hAB, h.2.2.2.narrow hAB⟩
abbrev tysA (AC : Nat → ClassId) : List (ClassId × FieldType) := [(AC 100, .object "java/lang/Object"), (AC 101, .int), (AC 102, .long), (AC 103, .boolean)]
abbrev pw (AC : Nat → ClassId) (w : Wd) : va_W := va_pl (wL w) (bw_c FTc AC w)
/-- a method's start -/
def PreW (D : va_G) (AC : Nat → ClassId) (e0 mi sz : Nat) (w : Wd) (U : State) : Prop := U.heap.size = sz ∧ va_P D cls8 (pw AC w) U.heap ∧ va_K D cls8 (tysA AC) U ∧ va_D (fun _ => True) (pw AC w) ∧ SH e0 (va_A (pw AC w) sz) U U.heap ∧ SV mi U
/-- the world behind it -/
def PostW (D : va_G) (AC : Nat → ClassId) (A : Nat → Prop) (w' : Wd) (st t : State) : Prop := va_P D cls8 (pw AC w') t.heap ∧ va_D A (pw AC w') ∧ va_F A st t
def QQ (D : va_G) (AC : Nat → ClassId) (A : Nat → Prop) (Q : Option Value → Wd → Prop) : Array Value → State → Outcome → State → Prop := fun _ st o t => ∃ (v : Option Value) (w' : Wd), o = .returned v ∧ Q v w' ∧ PostW D AC A w' st t
def XX (D : va_G) (AC : Nat → ClassId) (A : Nat → Prop) (X : String → Wd → Prop) : String → State → State → Prop := fun E st t => ∃ w' : Wd, X E w' ∧ PostW D AC A w' st t
/-- THE CONTRACT: from the world w, with the arguments av, it returns v and the world w' with Q, or throws an E with X -/
def Ct (l : Launch) (D : va_G) (AC : Nat → ClassId) (e0 mi : Nat) (y : MethodName) (ws : List Cond) (fr lo : Nat) (av : List Value) (w : Wd) (mc ms : Nat) (Q : Option Value → Wd → Prop) (X : String → Wd → Prop) : Prop :=
  ∀ sz : Nat, vx_Met l y ws { frames := fr, cells := mc, slots := ms, locals := lo } (va_Pc av (PreW D AC e0 mi sz w)) (QQ D AC (va_A (pw AC w) sz) Q) (XX D AC (va_A (pw AC w) sz) X) mc ms (va_A (pw AC w) sz)
theorem pre_blind {D : va_G} {AC : Nat → ClassId} {e0 mi sz : Nat} {w : Wd} {av : List Value} : FrameBlind (va_Pc av (PreW D AC e0 mi sz w)) := by
  intro a U g mk q
  obtain ⟨q0, q1, q2, q3, q4, q5, q6⟩ := q
  exact ⟨q0, q1, q2, va_K.moved (u := U) (U := U.calling g mk a) (Vm.Alike.refl U.vm) q3, q4, SH.moved (u := U) (U := U.calling g mk a) (Vm.Alike.refl U.vm) q5, SV.same (s := U) (U := U.calling g mk a) rfl q6⟩
theorem bw_fr0 {D : va_G} {AC : Nat → ClassId} {A : Nat → Prop} {H0 H : Heap} {locs : List Loc} {w : Wd} (hW : HW D cls8 FTc AC A H0 H locs w) (hA : ∀ q, H0.size ≤ q → A q) : ∀ q, va_A (pw AC w) H.size q → A q := by
  intro q h
  rcases h with ⟨k, e, hk⟩ | h
  · exact hW.2.1.2 k _ hk
  · exact hA q (Nat.le_trans hW.2.2.1 h)
theorem pre_of {D : va_G} {AC : Nat → ClassId} {e0 mi : Nat} {A : Nat → Prop} {s U : State} {H : Heap} {locs : List Loc} {w : Wd} (hW : HW D cls8 FTc AC A s.heap H locs w) (hA : ∀ q, s.heap.size ≤ q → A q) (hK : va_K D cls8 (tysA AC) s) (hZ : SH e0 A s s.heap) (hV : SV mi s) (hU : U.heap = H) (hWm : s.WarmedH U.vm) : PreW D AC e0 mi H.size w U := by
  refine ⟨by rw [hU], by rw [hU]; exact hW.1, hK.moved hWm.alike, hW.2.1.weaken (fun _ _ _ _ => trivial), ?_, hV.warm hWm⟩
  rw [hU]
  exact ((hZ.kept hW.2.2.2.1).moved hWm.alike).narrow (bw_fr0 hW hA)
/-- what holds in a method's body -/
def Cx (p : Program) (l : Launch) (s : State) (m : MethodId) (args : Array Value) (meth : Method) (c : Code) (D : va_G) (AC : Nat → ClassId) (e0 mi : Nat) (A : Nat → Prop) (y : MethodName) (cc : ByteArray) (nL : Nat) (ret : Option FieldType) : Prop :=
  l.stackTraces = false ∧ p.tables.exec = Jvm.exec ∧ c.code = cc ∧ meth.sig.returnType = ret ∧ (∀ w ∈ TBL, w.before args s = true) ∧ s.vm.findClass y.cls = some m.cls ∧ meth.locks = false ∧ meth.name = y.name ∧ c.maxLocals = nL ∧ (∀ x ∈ c.exceptionTable.toList, False) ∧ va_K D cls8 (tysA AC) s ∧ (∀ q, s.heap.size ≤ q → A q) ∧ SH e0 A s s.heap ∧ SV mi s
/-- a method's code and name among the words -/
def CI (y : MethodName) (bytes : ByteArray) (maxL : Nat) (ret : Option FieldType) (n : Nat) : Prop := Cond.code y bytes maxL ret ∈ TBL ∧ Cond.initialized y.cls ∈ TBL ∧ y.cls ≠ "java/lang/invoke/MethodHandle" ∧ y.cls ≠ "java/lang/invoke/VarHandle" ∧ (parseMethodDescriptor y.desc).map (fun d => d.parameters.length) = some n
abbrev wy (y : MethodName) (bytes : ByteArray) (maxL : Nat) (ret : Option FieldType) : List Cond := Cond.code y bytes maxL ret :: TBL
theorem wy_good {y : MethodName} {bytes : ByteArray} {maxL : Nat} {ret : Option FieldType} (h : Cond.code y bytes maxL ret ∈ TBL) : GoodIn TBL (wy y bytes maxL ret) := tg (fun w hw => (List.mem_cons.mp hw).elim (fun e => e ▸ h) id)
set_option maxHeartbeats 1000000 in
theorem Ct.of {l : Launch} {D : va_G} {AC : Nat → ClassId} {e0 mi : Nat} {y : MethodName} {bytes : ByteArray} {maxL : Nat} {ret : Option FieldType} {fr lo : Nat} {av : List Value} {w : Wd} {mc ms : Nat} {Q : Option Value → Wd → Prop} {X : String → Wd → Prop} (hl : l.stackTraces = false) (hy : plainName y.cls = true) (hn : (lg_sl av).length ≤ maxL)
    (body : ∀ (p : Program) (e : Env) (s : State) (m : MethodId) (args : Array Value) (below : List Frame) (meth : Method) (c : Code) (A : Nat → Prop) (ls : Array Slot), Cx p l s m args meth c D AC e0 mi A y bytes maxL ret → HW D cls8 FTc AC A s.heap s.heap [] w → lv_has ls maxL (lv_args 0 av) →
      W p l e { frames := fr, cells := mc, slots := ms, locals := lo } s m args below meth c s.heap [] 0 0 (vx_MQ below (QQ D AC A Q) (XX D AC A X) args s mc ms A) (F0 m 0 ls [])) : Ct l D AC e0 mi y (wy y bytes maxL ret) fr lo av w mc ms Q X := by
  intro sz
  refine vx_ofW (cc := bytes) (maxL := maxL) (ret := ret) hy rfl ?_
  intro p e s m args below meth c s₁ B hml hex hv
  obtain ⟨rfl, hsz, hP, hK, hD0, hZ, hV⟩ := hv
  have hts := atoms_spec (ws := wy y bytes maxL ret) B.pre
  subst hsz
  have hD := hD0.self (sz := s.heap.size)
  have hl2 := lv_entry av (n := maxL) hn
  rw [lg_entry_eq]
  exact body p e s m _ below meth c _ _ ⟨hl, B.exec, B.bytes, B.returns, fun w hw => hts w (List.mem_cons_of_mem _ hw), findClass_of_methodNamed B.named, B.notSynchronized, (name_of_methodNamed B.named B.method).1, hml, hex, hK, fun q h => Or.inr h, hZ, hV⟩ ⟨hP, hD, va_S.rf⟩ hl2
section BWC
variable {p : Program} {l : Launch} {e : Env} {R : Room} {s : State} {m : MethodId} {args : Array Value} {below : List Frame} {meth : Method} {c : Code} {H : Heap} {locs : List Loc} {cells slots : Nat} {Qf : State → Prop}
variable {cc : ByteArray} {pc : Nat} {ls : Array Slot} {rest st0 As : List Value} {D : va_G} {AC : Nat → ClassId} {A : Nat → Prop} {w : Wd} {e0 mi : Nat} {nL k n mc ms : Nat} {y0 y : MethodName} {ret0 ret : Option FieldType} {bytes : ByteArray} {maxL nA index fr lo : Nat} {Q Q1 : Option Value → Wd → Prop} {X X1 : String → Wd → Prop} {av : Array Value}
theorem bw_callR (hW : HW D cls8 FTc AC A s.heap H locs w) (hA : ∀ q, s.heap.size ≤ q → A q) (hr : vx_Run p l e R s m args below meth c H locs cells slots k n (F0 m pc ls st0) rest (QQ D AC (va_A (pw AC w) H.size) Q1 av) (XX D AC (va_A (pw AC w) H.size) X1) (va_A (pw AC w) H.size))
    (kx : ∀ (E : String) (ce : Cell) (q9 : Addr) (w' : Wd) (H1 : Heap) (locs1 : List Loc), X1 E w' → HW D cls8 FTc AC A s.heap H1 locs1 w' → H1[q9]? = some ce → ce.vm = .none → s.vm.findClass E = some ce.cls → vx_W p l e R s m args below meth c H1 locs1 (cells + k) (slots + n) Qf (F0 m pc ls rest) q9)
    (kk : ∀ (v : Option Value) (w' : Wd) (H1 : Heap) (locs1 : List Loc), Q1 v w' → HW D cls8 FTc AC A s.heap H1 locs1 w' → W p l e R s m args below meth c H1 locs1 (cells + k) (slots + n) Qf (F0 m (pc + 3) ls (v.toList ++ rest))) : W p l e R s m args below meth c H locs cells slots Qf (F0 m pc ls st0) := by
  have hFc := bw_fr0 hW hA
  intro T hT X0
  rcases hr T hT X0 with ⟨v, st₀, t, T', L, h0, X', hL, e1, e2, ⟨v', w', hv, hq, hP, hD, hF⟩, st⟩ | ⟨q, st₀, t, T', L, E, ce, h0, X', hL, e1, e2, ⟨w', hq, hP, hD, hF⟩, hce, hcv, hcl, st⟩
  · cases hv
    obtain ⟨k1, k2, k3⟩ := vx_keep h0 e1 hW.2.2 (fun q _ h => hFc q h) hFc hL hF
    obtain ⟨t2, a1, b1⟩ := kk v w' T'.heap (locs ++ L) hq ⟨by rw [e1]; exact hP, hD.weaken (fun _ _ _ h => hFc _ h), k3⟩ T' rfl X'
    exact ⟨t2, st t2 a1, b1⟩
  · obtain ⟨k1, k2, k3⟩ := vx_keep h0 e1 hW.2.2 (fun q _ h => hFc q h) hFc hL hF
    obtain ⟨t2, a1, b1⟩ := kx E ce q w' T'.heap (locs ++ L) hq ⟨by rw [e1]; exact hP, hD.weaken (fun _ _ _ h => hFc _ h), k3⟩ (by rw [e1]; exact hce) hcv hcl T' rfl X'
    exact ⟨t2, st.trans a1, b1⟩
/-- what a callee throws goes on to the caller's caller -/
theorem bw_up (C : Cx p l s m args meth c D AC e0 mi A y0 cc nL ret0) (hX : ∀ E w', X1 E w' → X E w') {E : String} {ce : Cell} {q9 : Addr} {w' : Wd} {H1 : Heap} {locs1 : List Loc} (hx : X1 E w') (hW : HW D cls8 FTc AC A s.heap H1 locs1 w') (h1 : H1[q9]? = some ce) (h2 : ce.vm = .none) (h3 : s.vm.findClass E = some ce.cls) (hc : cells ≤ mc) (hs : slots ≤ ms) :
    vx_W p l e R s m args below meth c H1 locs1 cells slots (vx_MQ below (QQ D AC A Q) (XX D AC A X) args s mc ms A) (F0 m pc ls rest) q9 := by
  obtain ⟨hl, hx0, hb, hr, ht, hown, hlocks, hnm, hml, hex, hK, hA, hZ, hV⟩ := C
  exact vx_out (fun x hx => (hex x hx).elim) hlocks h1 h2 h3 (fun t ht _ => ⟨w', hX E w' hx, by rw [ht]; exact hW.1, hW.2.1, hW.2.2.F ht⟩) hW.2.2.2.2 hc hs
/-- invokestatic -/
theorem bw_callS (C : Cx p l s m args meth c D AC e0 mi A y0 cc nL ret0) (hW : HW D cls8 FTc AC A s.heap H locs w) (ci : CI y bytes maxL ret nA) (hlink : Cond.methodLink y0.cls index y ∈ TBL) (hst : Cond.static y ∈ TBL) (hdg : decode cc pc = .ok (.invokestatic index, 3)) (hstack : st0 = As.reverse ++ rest) (hn : As.length = nA) (hls : ls.size = nL) (hroom : (rest.map fun v => v.category).sum ≤ 8) (hR : fr + 1 ≤ R.frames ∧ 8 + (maxL + 11) + lo ≤ R.locals) (hf : cells + k ≤ R.cells ∧ slots + n ≤ R.slots)
    (hM : Ct l D AC e0 mi y (wy y bytes maxL ret) fr lo As w k n Q1 X1)
    (kx : ∀ (E : String) (ce : Cell) (q9 : Addr) (w' : Wd) (H1 : Heap) (locs1 : List Loc), X1 E w' → HW D cls8 FTc AC A s.heap H1 locs1 w' → H1[q9]? = some ce → ce.vm = .none → s.vm.findClass E = some ce.cls → vx_W p l e R s m args below meth c H1 locs1 (cells + k) (slots + n) Qf (F0 m pc ls rest) q9)
    (kk : ∀ (v : Option Value) (w' : Wd) (H1 : Heap) (locs1 : List Loc), Q1 v w' → HW D cls8 FTc AC A s.heap H1 locs1 w' → W p l e R s m args below meth c H1 locs1 (cells + k) (slots + n) Qf (F0 m (pc + 3) ls (v.toList ++ rest))) : W p l e R s m args below meth c H locs cells slots Qf (F0 m pc ls st0) := by
  obtain ⟨hl, hx, hb, hr, ht, hown, hlocks, hnm, hml, hex, hK, hA, hZ, hV⟩ := C
  obtain ⟨c1, c2, c3, c4, c5⟩ := ci
  refine bw_callR (av := As.toArray) hW hA (vx_runS (n := nA) (Ts := TBL) (own := y0.cls) (bytes := bytes) (maxL := maxL) (ret := ret) ⟨hx, hb, hml, hown, ht⟩ (hM H.size) ⟨callB_of nA ht (wy_good c1) rfl rfl rfl (ht _ c2) (ht _ hlink) ⟨c3, c4, c5⟩ hR, ht _ hst⟩ ⟨pre_blind, fun U hU hWm => ⟨rfl, pre_of hW hA hK hZ hV hU hWm⟩⟩ rfl hn hls hstack (lv_room hroom) hdg hf) kx kk
/-- invokevirtual on an object of its own class -/
theorem bw_callV (C : Cx p l s m args meth c D AC e0 mi A y0 cc nL ret0) (hW : HW D cls8 FTc AC A s.heap H locs w) (ci : CI y bytes maxL ret nA) (hlink : Cond.methodLink y0.cls index y ∈ TBL) (hin : Cond.instanceMethod y ∈ TBL) (hsel : Cond.selects y.cls y y ∈ TBL) (hdg : decode cc pc = .ok (.invokevirtual index, 3)) {r : Option Nat} {b cn : Nat} {T : u_T} {N : Nat} (hr0 : r = some b) (hb0 : bw_is w b cn) (h100 : cn < 100) (hcn : cls8[cn]? = some (y.cls, T, N)) (hstack : st0 = As.reverse ++ va_rf r :: rest) (hn : As.length = nA) (hls : ls.size = nL) (hroom : (rest.map fun v => v.category).sum ≤ 8) (hR : fr + 1 ≤ R.frames ∧ 8 + (maxL + 11) + lo ≤ R.locals) (hf : cells + k ≤ R.cells ∧ slots + n ≤ R.slots)
    (hM : Ct l D AC e0 mi y (wy y bytes maxL ret) fr lo (va_rf (some b) :: As) w k n Q1 X1)
    (kx : ∀ (E : String) (ce : Cell) (q9 : Addr) (w' : Wd) (H1 : Heap) (locs1 : List Loc), X1 E w' → HW D cls8 FTc AC A s.heap H1 locs1 w' → H1[q9]? = some ce → ce.vm = .none → s.vm.findClass E = some ce.cls → vx_W p l e R s m args below meth c H1 locs1 (cells + k) (slots + n) Qf (F0 m pc ls rest) q9)
    (kk : ∀ (v : Option Value) (w' : Wd) (H1 : Heap) (locs1 : List Loc), Q1 v w' → HW D cls8 FTc AC A s.heap H1 locs1 w' → W p l e R s m args below meth c H1 locs1 (cells + k) (slots + n) Qf (F0 m (pc + 3) ls (v.toList ++ rest))) : W p l e R s m args below meth c H locs cells slots Qf (F0 m pc ls st0) := by
  obtain ⟨hl, hx, hb, hr, ht, hown, hlocks, hnm, hml, hex, hK, hA, hZ, hV⟩ := C
  obtain ⟨c1, c2, c3, c4, c5⟩ := ci
  subst hr0
  obtain ⟨q0, hq⟩ := va_pl_get (X := []) (f := bw_c FTc AC w) hb0.1
  rw [bw_c_o hb0.2 h100] at hq
  refine bw_callR (av := (Value.ref b :: As).toArray) hW hA (vx_runV (n := nA) (Ts := TBL) (own := y0.cls) (C := y.cls) (b := b) (bytes := bytes) (maxL := maxL) (ret := ret) ⟨hx, hb, hml, hown, ht⟩ (hM H.size) ⟨callB_of nA ht (wy_good c1) rfl rfl rfl (ht _ c2) (ht _ hlink) ⟨c3, c4, c5⟩ hR, ht _ hin, ht _ hsel⟩ ⟨pre_blind, va_recv hK hW.1 hcn hq, fun U hU hWm => ⟨rfl, pre_of hW hA hK hZ hV hU hWm⟩⟩ rfl hn hls hstack (lv_room hroom) hdg hf) kx kk
/-- a contract that never throws, as the kit has it -/
theorem Ct.met {y : MethodName} {ws : List Cond} {As : List Value} (h : Ct l D AC e0 mi y ws fr lo As w k n Q1 (fun _ _ => False)) (sz : Nat) : Met l y ws { frames := fr, cells := k, slots := n, locals := lo } (va_Pc As (PreW D AC e0 mi sz w)) (QQ D AC (va_A (pw AC w) sz) Q1) k n (va_A (pw AC w) sz) := by
  intro p e ha hc hk s m args below hf happ hP hK
  obtain ⟨j, o, h1, h2, h3, h4⟩ := h sz p e ha hc hk s m args below hf happ hP hK
  refine ⟨j, o, h1, h2, h3, ?_⟩
  rcases h4 with h4 | ⟨q, -, E, ce, L, ⟨w', hF, -⟩, -⟩
  · exact h4
  · exact hF.elim
/-- invokespecial of a constructor that never throws -/
theorem bw_callI (C : Cx p l s m args meth c D AC e0 mi A y0 cc nL ret0) (hW : HW D cls8 FTc AC A s.heap H locs w) (ci : CI y bytes maxL none nA) (hi : y.name = "<init>") (hlink : Cond.methodLink y0.cls index y ∈ TBL) (hin : Cond.instanceMethod y ∈ TBL) (hdg : decode cc pc = .ok (.invokespecial index, 3)) {b : Nat} (hstack : st0 = As.reverse ++ va_rf (some b) :: rest) (hn : As.length = nA) (hls : ls.size = nL) (hroom : (rest.map fun v => v.category).sum ≤ 8) (hR : fr + 1 ≤ R.frames ∧ 8 + (maxL + 11) + lo ≤ R.locals) (hf : cells + k ≤ R.cells ∧ slots + n ≤ R.slots)
    (hM : Ct l D AC e0 mi y (wy y bytes maxL none) fr lo (va_rf (some b) :: As) w k n Q1 (fun _ _ => False))
    (kk : ∀ (v : Option Value) (w' : Wd) (H1 : Heap) (locs1 : List Loc), Q1 v w' → HW D cls8 FTc AC A s.heap H1 locs1 w' → W p l e R s m args below meth c H1 locs1 (cells + k) (slots + n) Qf (F0 m (pc + 3) ls (v.toList ++ rest))) : W p l e R s m args below meth c H locs cells slots Qf (F0 m pc ls st0) := by
  obtain ⟨hl, hx, hb, hr, ht, hown, hlocks, hnm, hml, hex, hK, hA, hZ, hV⟩ := C
  obtain ⟨c1, c2, c3, c4, c5⟩ := ci
  have hr1 : va_Run p l e R s m args below meth c H locs cells slots k n (F0 m pc ls st0) rest (QQ D AC (va_A (pw AC w) H.size) Q1 (Value.ref b :: As).toArray) (va_A (pw AC w) H.size) := va_runI (n := nA) (Ts := TBL) (own := y0.cls) (b := b) (bytes := bytes) (maxL := maxL) ⟨hx, hb, hml, hown, ht⟩ (hM.met H.size) ⟨callB_of nA ht (wy_good c1) rfl rfl rfl (ht _ c2) (ht _ hlink) ⟨c3, c4, c5⟩ hR, hi, ht _ hin⟩ ⟨pre_blind, fun U hU hWm => ⟨rfl, pre_of hW hA hK hZ hV hU hWm⟩⟩ rfl hn hls hstack (lv_room hroom) hdg hf
  exact bw_callR (X1 := fun _ _ => False) (av := (Value.ref b :: As).toArray) hW hA (fun T hT X0 => Or.inl (hr1 T hT X0)) (fun E ce q9 w' H1 locs1 h => h.elim) kk
/-- ends -/
theorem bw_iret (C : Cx p l s m args meth c D AC e0 mi A y0 cc nL (some .int)) (hW : HW D cls8 FTc AC A s.heap H locs w) {v : Int32} (hq : Q (some (.int v)) w) (hdg : decode cc pc = .ok (.ireturn, 1)) (h1 : cells ≤ mc) (h2 : slots ≤ ms) : W p l e R s m args below meth c H locs cells slots (vx_MQ below (QQ D AC A Q) (XX D AC A X) args s mc ms A) (F0 m pc ls [.int v]) := by
  obtain ⟨hl, hx, hb, hr, ht, hown, hlocks, hnm, hml, hex, hK, hA, hZ, hV⟩ := C
  exact W.widen h1 h2 (vx_ret (W.iret hx hb hr (fun t ht _ => ⟨some (.int v), w, rfl, hq, by rw [ht]; exact hW.1, hW.2.1, hW.2.2.F ht⟩) hW.2.2.2.2 hdg))
theorem bw_zret (C : Cx p l s m args meth c D AC e0 mi A y0 cc nL (some .boolean)) (hW : HW D cls8 FTc AC A s.heap H locs w) {v : Int32} (hv : narrow .boolean (.int v) = .int v) (hq : Q (some (.int v)) w) (hdg : decode cc pc = .ok (.ireturn, 1)) (h1 : cells ≤ mc) (h2 : slots ≤ ms) : W p l e R s m args below meth c H locs cells slots (vx_MQ below (QQ D AC A Q) (XX D AC A X) args s mc ms A) (F0 m pc ls [.int v]) := by
  obtain ⟨hl, hx, hb, hr, ht, hown, hlocks, hnm, hml, hex, hK, hA, hZ, hV⟩ := C
  exact W.widen h1 h2 (vx_ret (W.zret hx hb hr hv (fun t ht _ => ⟨some (.int v), w, rfl, hq, by rw [ht]; exact hW.1, hW.2.1, hW.2.2.F ht⟩) hW.2.2.2.2 hdg))
theorem bw_vret (C : Cx p l s m args meth c D AC e0 mi A y0 cc nL none) (hW : HW D cls8 FTc AC A s.heap H locs w) (hq : Q none w) (hdg : decode cc pc = .ok (.return_, 1)) (h1 : cells ≤ mc) (h2 : slots ≤ ms) : W p l e R s m args below meth c H locs cells slots (vx_MQ below (QQ D AC A Q) (XX D AC A X) args s mc ms A) (F0 m pc ls []) := by
  obtain ⟨hl, hx, hb, hr, ht, hown, hlocks, hnm, hml, hex, hK, hA, hZ, hV⟩ := C
  exact W.widen h1 h2 (vx_ret (W.vret hx hb hr (fun t ht _ => ⟨none, w, rfl, hq, by rw [ht]; exact hW.1, hW.2.1, hW.2.2.F ht⟩) hW.2.2.2.2 hdg))
theorem bw_aret {rt : FieldType} (C : Cx p l s m args meth c D AC e0 mi A y0 cc nL (some rt)) (hrt : (∃ n, rt = .object n) ∨ ∃ t, rt = .array t) (hW : HW D cls8 FTc AC A s.heap H locs w) {v : Option Nat} (hq : Q (some (va_rf v)) w) (hdg : decode cc pc = .ok (.areturn, 1)) (h1 : cells ≤ mc) (h2 : slots ≤ ms) : W p l e R s m args below meth c H locs cells slots (vx_MQ below (QQ D AC A Q) (XX D AC A X) args s mc ms A) (F0 m pc ls [va_rf v]) := by
  obtain ⟨hl, hx, hb, hr, ht, hown, hlocks, hnm, hml, hex, hK, hA, hZ, hV⟩ := C
  refine W.widen h1 h2 (vx_ret (W.aret hx hb hr hrt ?_ (fun t ht _ => ⟨some (va_rf v), w, rfl, hq, by rw [ht]; exact hW.1, hW.2.1, hW.2.2.F ht⟩) hW.2.2.2.2 hdg))
  cases v with
  | none => exact Or.inl rfl
  | some a => exact Or.inr ⟨a, rfl⟩
end BWC
end
section
/-! ROWS OF ARRAYS over the world -/
section BWA
variable {p : Program} {l : Launch} {e : Env} {R : Room} {s : State} {m : MethodId} {args : Array Value} {below : List Frame} {meth : Method} {c : Code} {H : Heap} {locs : List Loc} {cells slots : Nat} {Qf : State → Prop}
variable {cc : ByteArray} {pc : Nat} {ls : Array Slot} {rest : List Value} {D : va_G} {AC : Nat → ClassId} {A : Nat → Prop} {w : Wd} {e0 mi : Nat} {nL : Nat} {y0 : MethodName} {ret0 : Option FieldType}
theorem bw_alen (C : Cx p l s m args meth c D AC e0 mi A y0 cc nL ret0) (hW : HW D cls8 FTc AC A s.heap H locs w) {r : Option Nat} {a kd t0 : Nat} {ty : FieldType} (hr : r = some a) (ha : bw_is w a kd) (hk : ¬ kd < 100) (ht0 : (tysA AC)[t0]? = some (AC kd, ty)) (hdg : decode cc pc = .ok (.arraylength, 1))
    (kk : W p l e R s m args below meth c H locs cells slots Qf (F0 m (pc + 1) ls (.int (nI (wN w a)) :: rest))) : W p l e R s m args below meth c H locs cells slots Qf (F0 m pc ls (va_rf r :: rest)) := by
  obtain ⟨hl, hx, hb, hr0, ht, hown, hlocks, hnm, hml, hex, hK, hA, hZ, hV⟩ := C
  subst hr
  obtain ⟨q0, hq⟩ := va_pl_get (X := []) (f := bw_c FTc AC w) ha.1
  rw [bw_c_a ha.2 hk] at hq
  exact va_alen hx hb hK hW.1 q0 t0 hq ht0 rfl hdg kk
theorem bw_iald (C : Cx p l s m args meth c D AC e0 mi A y0 cc nL ret0) (hW : HW D cls8 FTc AC A s.heap H locs w) {r : Option Nat} {a : Nat} {i : Int32} (hr : r = some a) (ha : bw_is w a 101) (hin : vp_in i (wN w a)) (hdg : decode cc pc = .ok (.iaload, 1))
    (kk : W p l e R s m args below meth c H locs cells slots Qf (F0 m (pc + 1) ls (.int (wI w a i.toNatClampNeg) :: rest))) : W p l e R s m args below meth c H locs cells slots Qf (F0 m pc ls (.int i :: va_rf r :: rest)) := by
  obtain ⟨hl, hx, hb, hr0, ht, hown, hlocks, hnm, hml, hex, hK, hA, hZ, hV⟩ := C
  subst hr
  obtain ⟨q0, hq⟩ := va_pl_get (X := []) (f := bw_c FTc AC w) ha.1
  rw [bw_c_a ha.2 (by decide)] at hq
  exact va_iald hx hb hK hW.1 q0 1 hq rfl hin hdg kk
theorem bw_zald (C : Cx p l s m args meth c D AC e0 mi A y0 cc nL ret0) (hW : HW D cls8 FTc AC A s.heap H locs w) {r : Option Nat} {a : Nat} {i : Int32} (hr : r = some a) (ha : bw_is w a 103) (hin : vp_in i (wN w a)) (hdg : decode cc pc = .ok (.baload, 1))
    (kk : W p l e R s m args below meth c H locs cells slots Qf (F0 m (pc + 1) ls (.int (wI w a i.toNatClampNeg) :: rest))) : W p l e R s m args below meth c H locs cells slots Qf (F0 m pc ls (.int i :: va_rf r :: rest)) := by
  obtain ⟨hl, hx, hb, hr0, ht, hown, hlocks, hnm, hml, hex, hK, hA, hZ, hV⟩ := C
  subst hr
  obtain ⟨q0, hq⟩ := va_pl_get (X := []) (f := bw_c FTc AC w) ha.1
  rw [bw_c_a ha.2 (by decide)] at hq
  exact va_zald hx hb hK hW.1 q0 3 hq rfl hin hdg kk
theorem bw_lald (C : Cx p l s m args meth c D AC e0 mi A y0 cc nL ret0) (hW : HW D cls8 FTc AC A s.heap H locs w) {r : Option Nat} {a : Nat} {i : Int32} (hr : r = some a) (ha : bw_is w a 102) (hin : vp_in i (wN w a)) (hdg : decode cc pc = .ok (.laload, 1))
    (kk : W p l e R s m args below meth c H locs cells slots Qf (F0 m (pc + 1) ls (.long (wJ w a i.toNatClampNeg) :: rest))) : W p l e R s m args below meth c H locs cells slots Qf (F0 m pc ls (.int i :: va_rf r :: rest)) := by
  obtain ⟨hl, hx, hb, hr0, ht, hown, hlocks, hnm, hml, hex, hK, hA, hZ, hV⟩ := C
  subst hr
  obtain ⟨q0, hq⟩ := va_pl_get (X := []) (f := bw_c FTc AC w) ha.1
  rw [bw_c_a ha.2 (by decide)] at hq
  exact va_lald hx hb hK hW.1 q0 2 hq rfl hin hdg kk
theorem bw_aald (C : Cx p l s m args meth c D AC e0 mi A y0 cc nL ret0) (hW : HW D cls8 FTc AC A s.heap H locs w) {r : Option Nat} {a : Nat} {i : Int32} (hr : r = some a) (ha : bw_is w a 100) (hin : vp_in i (wN w a)) (hdg : decode cc pc = .ok (.aaload, 1))
    (kk : W p l e R s m args below meth c H locs cells slots Qf (F0 m (pc + 1) ls (va_rf (wR w a i.toNatClampNeg) :: rest))) : W p l e R s m args below meth c H locs cells slots Qf (F0 m pc ls (.int i :: va_rf r :: rest)) := by
  obtain ⟨hl, hx, hb, hr0, ht, hown, hlocks, hnm, hml, hex, hK, hA, hZ, hV⟩ := C
  subst hr
  obtain ⟨q0, hq⟩ := va_pl_get (X := []) (f := bw_c FTc AC w) ha.1
  rw [bw_c_a ha.2 (by decide)] at hq
  exact va_aldq hx hb hK hW.1 q0 0 hq rfl hin hdg kk
theorem bw_iast (C : Cx p l s m args meth c D AC e0 mi A y0 cc nL ret0) (hW : HW D cls8 FTc AC A s.heap H locs w) {r : Option Nat} {a : Nat} {i x : Int32} (hr : r = some a) (ha : bw_is w a 101) (hin : vp_in i (wN w a)) (hdg : decode cc pc = .ok (.iastore, 1))
    (kk : ∀ (H1 : Heap) (locs1 : List Loc), HW D cls8 FTc AC A s.heap H1 locs1 (sI w a i.toNatClampNeg x) → W p l e R s m args below meth c H1 locs1 cells slots Qf (F0 m (pc + 1) ls rest)) : W p l e R s m args below meth c H locs cells slots Qf (F0 m pc ls (.int x :: .int i :: va_rf r :: rest)) := by
  obtain ⟨hl, hx, hb, hr0, ht, hown, hlocks, hnm, hml, hex, hK, hA, hZ, hV⟩ := C
  subst hr
  obtain ⟨q0, hq⟩ := va_pl_get (X := []) (f := bw_c FTc AC w) ha.1
  have hq2 := hq
  rw [bw_c_a ha.2 (by decide)] at hq2
  refine va_iast hx hb hK hW.1 hW.2.1 hW.2.2 q0 1 hq2 rfl hin hdg (fun H1 locs1 hP hD hS => ?_)
  refine kk H1 locs1 (bw_put (w' := sI w a i.toNatClampNeg x) hW ha.1 hq hP hD hS rfl (bw_upc rfl rfl ?_ (fun b hb => ⟨va_up_ne _ _ hb, rfl, rfl⟩)))
  rw [bw_c_a (w := sI w a i.toNatClampNeg x) (kd := 101) ha.2 (by decide)]
  show Sum.inl (AC 101, wN w a, bw_ar 101 (va_up (wI w) a (va_up (wI w a) i.toNatClampNeg x) a) (wR w a) (wJ w a)) = _
  rw [va_up_self]
  rfl
theorem bw_zast (C : Cx p l s m args meth c D AC e0 mi A y0 cc nL ret0) (hW : HW D cls8 FTc AC A s.heap H locs w) {r : Option Nat} {a : Nat} {i x : Int32} (hr : r = some a) (ha : bw_is w a 103) (hin : vp_in i (wN w a)) (hdg : decode cc pc = .ok (.bastore, 1))
    (kk : ∀ (H1 : Heap) (locs1 : List Loc), HW D cls8 FTc AC A s.heap H1 locs1 (sI w a i.toNatClampNeg (vp_nar .boolean x)) → W p l e R s m args below meth c H1 locs1 cells slots Qf (F0 m (pc + 1) ls rest)) : W p l e R s m args below meth c H locs cells slots Qf (F0 m pc ls (.int x :: .int i :: va_rf r :: rest)) := by
  obtain ⟨hl, hx, hb, hr0, ht, hown, hlocks, hnm, hml, hex, hK, hA, hZ, hV⟩ := C
  subst hr
  obtain ⟨q0, hq⟩ := va_pl_get (X := []) (f := bw_c FTc AC w) ha.1
  have hq2 := hq
  rw [bw_c_a ha.2 (by decide)] at hq2
  refine va_zast hx hb hK hW.1 hW.2.1 hW.2.2 q0 3 hq2 rfl hin hdg (fun H1 locs1 hP hD hS => ?_)
  refine kk H1 locs1 (bw_put (w' := sI w a i.toNatClampNeg (vp_nar .boolean x)) hW ha.1 hq hP hD hS rfl (bw_upc rfl rfl ?_ (fun b hb => ⟨va_up_ne _ _ hb, rfl, rfl⟩)))
  rw [bw_c_a (w := sI w a i.toNatClampNeg (vp_nar .boolean x)) (kd := 103) ha.2 (by decide)]
  show Sum.inl (AC 103, wN w a, bw_ar 103 (va_up (wI w) a (va_up (wI w a) i.toNatClampNeg (vp_nar .boolean x)) a) (wR w a) (wJ w a)) = _
  rw [va_up_self]
  rfl
theorem bw_last (C : Cx p l s m args meth c D AC e0 mi A y0 cc nL ret0) (hW : HW D cls8 FTc AC A s.heap H locs w) {r : Option Nat} {a : Nat} {i : Int32} {x : Int64} (hr : r = some a) (ha : bw_is w a 102) (hin : vp_in i (wN w a)) (hdg : decode cc pc = .ok (.lastore, 1))
    (kk : ∀ (H1 : Heap) (locs1 : List Loc), HW D cls8 FTc AC A s.heap H1 locs1 (sJ w a i.toNatClampNeg x) → W p l e R s m args below meth c H1 locs1 cells slots Qf (F0 m (pc + 1) ls rest)) : W p l e R s m args below meth c H locs cells slots Qf (F0 m pc ls (.long x :: .int i :: va_rf r :: rest)) := by
  obtain ⟨hl, hx, hb, hr0, ht, hown, hlocks, hnm, hml, hex, hK, hA, hZ, hV⟩ := C
  subst hr
  obtain ⟨q0, hq⟩ := va_pl_get (X := []) (f := bw_c FTc AC w) ha.1
  have hq2 := hq
  rw [bw_c_a ha.2 (by decide)] at hq2
  refine va_last hx hb hK hW.1 hW.2.1 hW.2.2 q0 2 hq2 rfl hin hdg (fun H1 locs1 hP hD hS => ?_)
  refine kk H1 locs1 (bw_put (w' := sJ w a i.toNatClampNeg x) hW ha.1 hq hP hD hS rfl (bw_upc rfl rfl ?_ (fun b hb => ⟨rfl, rfl, va_up_ne _ _ hb⟩)))
  rw [bw_c_a (w := sJ w a i.toNatClampNeg x) (kd := 102) ha.2 (by decide)]
  show Sum.inl (AC 102, wN w a, bw_ar 102 (wI w a) (wR w a) (va_up (wJ w) a (va_up (wJ w a) i.toNatClampNeg x) a)) = _
  rw [va_up_self]
  rfl
/-- a reference into an Object[]: null, or an object of one of our classes -/
theorem bw_aast (C : Cx p l s m args meth c D AC e0 mi A y0 cc nL ret0) (hW : HW D cls8 FTc AC A s.heap H locs w) {r x : Option Nat} {a : Nat} {i : Int32} (hr : r = some a) (ha : bw_is w a 100) (hin : vp_in i (wN w a)) (hxo : ∀ b, x = some b → ∃ cn, bw_is w b cn ∧ cn < 6 ∧ cn ≠ 5) (hdg : decode cc pc = .ok (.aastore, 1))
    (kk : ∀ (H1 : Heap) (locs1 : List Loc), HW D cls8 FTc AC A s.heap H1 locs1 (sR w a i.toNatClampNeg x) → W p l e R s m args below meth c H1 locs1 cells slots Qf (F0 m (pc + 1) ls rest)) : W p l e R s m args below meth c H locs cells slots Qf (F0 m pc ls (va_rf x :: .int i :: va_rf r :: rest)) := by
  obtain ⟨hl, hx, hb, hr0, ht, hown, hlocks, hnm, hml, hex, hK, hA, hZ, hV⟩ := C
  subst hr
  obtain ⟨q0, hq⟩ := va_pl_get (X := []) (f := bw_c FTc AC w) ha.1
  have hq2 := hq
  rw [bw_c_a ha.2 (by decide)] at hq2
  have fin : ∀ (H1 : Heap) (locs1 : List Loc), va_P D cls8 ((va_pl (wL w) (bw_c FTc AC w)).set q0 (a, .inl (AC 100, wN w a, .inr (.inr (.inr (.inr (va_up (wR w a) i.toNatClampNeg x))))))) H1 → va_D A ((va_pl (wL w) (bw_c FTc AC w)).set q0 (a, .inl (AC 100, wN w a, .inr (.inr (.inr (.inr (va_up (wR w a) i.toNatClampNeg x))))))) → va_S A s.heap H1 locs1 → W p l e R s m args below meth c H1 locs1 cells slots Qf (F0 m (pc + 1) ls rest) := by
    intro H1 locs1 hP hD hS
    refine kk H1 locs1 (bw_put (w' := sR w a i.toNatClampNeg x) hW ha.1 hq hP hD hS rfl (bw_upc rfl rfl ?_ (fun b hb => ⟨rfl, va_up_ne _ _ hb, rfl⟩)))
    rw [bw_c_a (w := sR w a i.toNatClampNeg x) (kd := 100) ha.2 (by decide)]
    show Sum.inl (AC 100, wN w a, bw_ar 100 (wI w a) (va_up (wR w) a (va_up (wR w a) i.toNatClampNeg x) a) (wJ w a)) = _
    rw [va_up_self]
    rfl
  cases x with
  | none => exact va_astqN hx hb hK hW.1 hW.2.1 hW.2.2 q0 0 hq2 rfl hin hdg fin
  | some b =>
    obtain ⟨cn, hbn, hlt, h5⟩ := hxo b rfl
    obtain ⟨qk, hqk⟩ := va_pl_get (X := []) (f := bw_c FTc AC w) hbn.1
    rw [bw_c_o hbn.2 (by omega)] at hqk
    match cn, hlt, h5, hqk with
    | 0, _, _, hqk => exact va_astqO hx hb hK hW.1 hW.2.1 hW.2.2 q0 0 qk 0 hq2 rfl (hV.2.1 ("BeltRows$Belt", "java/lang/Object") (by decide +kernel)) hqk rfl hin hdg fin
    | 1, _, _, hqk => exact va_astqO hx hb hK hW.1 hW.2.1 hW.2.2 q0 0 qk 1 hq2 rfl (hV.2.1 ("BeltRows$Edge", "java/lang/Object") (by decide +kernel)) hqk rfl hin hdg fin
    | 2, _, _, hqk => exact va_astqO hx hb hK hW.1 hW.2.1 hW.2.2 q0 0 qk 2 hq2 rfl (hV.2.1 ("BeltRows$Item", "java/lang/Object") (by decide +kernel)) hqk rfl hin hdg fin
    | 3, _, _, hqk => exact va_astqO hx hb hK hW.1 hW.2.1 hW.2.2 q0 0 qk 3 hq2 rfl (hV.2.1 ("BeltRows$Scanner", "java/lang/Object") (by decide +kernel)) hqk rfl hin hdg fin
    | 4, _, _, hqk => exact va_astqO hx hb hK hW.1 hW.2.1 hW.2.2 q0 0 qk 4 hq2 rfl (hV.2.1 ("BeltRows$Way", "java/lang/Object") (by decide +kernel)) hqk rfl hin hdg fin
    | 5, _, h5, _ => exact absurd rfl h5
/-- new int[n], long[n], boolean[n] -/
theorem bw_newI (C : Cx p l s m args meth c D AC e0 mi A y0 cc nL ret0) (hW : HW D cls8 FTc AC A s.heap H locs w) (harr : Cond.arrayClass .int ∈ TBL) {n : Int32} (hn : ¬ n < 0) (hbytes : n.toNatClampNeg * 4 ≤ 536870912) (hcells : cells + 1 ≤ R.cells) (hslots : slots + n.toNatClampNeg ≤ R.slots) (hdg : decode cc pc = .ok (.newarray .int, 2))
    (kk : ∀ (q : Nat) (H1 : Heap), q ∉ wL w → HW D cls8 FTc AC A s.heap H1 locs (bw_new w q 101 n.toNatClampNeg) → W p l e R s m args below meth c H1 locs (cells + 1) (slots + n.toNatClampNeg) Qf (F0 m (pc + 2) ls (va_rf (some q) :: rest))) : W p l e R s m args below meth c H locs cells slots Qf (F0 m pc ls (.int n :: rest)) := by
  obtain ⟨hl, hx, hb, hr0, ht, hown, hlocks, hnm, hml, hex, hK, hA, hZ, hV⟩ := C
  refine va_newa (atype := .int) (ty := .int) (a0 := (n.toNatClampNeg, .inl (fun _ => 0))) hx hb (ht _ harr) rfl hK hW.1 hW.2.1 hW.2.2 hA (fun _ => rfl) hn rfl hbytes hcells hslots hdg (fun q cA H1 hK1 hP hD hS => ?_)
  have e1 : s.vm.findClass ("[" ++ (FieldType.int).toString) = some cA := (hK1.2 4 _ rfl).2
  have e2 : s.vm.findClass ("[" ++ (FieldType.int).toString) = some (AC 101) := (hK.2 1 _ rfl).2
  obtain rfl : cA = AC 101 := Option.some.inj (e1.symm.trans e2)
  have h := bw_push (w := w) (kd := 101) (n := n.toNatClampNeg) hW hP hD hS (by
    rw [bw_c_a (w := bw_new w q 101 n.toNatClampNeg) (kd := 101) (va_up_self _ _ _) (by decide)]
    show Sum.inl (AC 101, va_up (wN w) q n.toNatClampNeg q, bw_ar 101 (va_up (wI w) q (fun _ => 0) q) (va_up (wR w) q (fun _ => none) q) (va_up (wJ w) q (fun _ => 0) q)) = _
    rw [va_up_self, va_up_self, va_up_self, va_up_self]
    rfl)
  exact kk q H1 h.1 h.2
theorem bw_newZ (C : Cx p l s m args meth c D AC e0 mi A y0 cc nL ret0) (hW : HW D cls8 FTc AC A s.heap H locs w) (harr : Cond.arrayClass .boolean ∈ TBL) {n : Int32} (hn : ¬ n < 0) (hbytes : n.toNatClampNeg * 1 ≤ 536870912) (hcells : cells + 1 ≤ R.cells) (hslots : slots + n.toNatClampNeg ≤ R.slots) (hdg : decode cc pc = .ok (.newarray .boolean, 2))
    (kk : ∀ (q : Nat) (H1 : Heap), q ∉ wL w → HW D cls8 FTc AC A s.heap H1 locs (bw_new w q 103 n.toNatClampNeg) → W p l e R s m args below meth c H1 locs (cells + 1) (slots + n.toNatClampNeg) Qf (F0 m (pc + 2) ls (va_rf (some q) :: rest))) : W p l e R s m args below meth c H locs cells slots Qf (F0 m pc ls (.int n :: rest)) := by
  obtain ⟨hl, hx, hb, hr0, ht, hown, hlocks, hnm, hml, hex, hK, hA, hZ, hV⟩ := C
  refine va_newa (atype := .boolean) (ty := .boolean) (a0 := (n.toNatClampNeg, .inl (fun _ => 0))) hx hb (ht _ harr) rfl hK hW.1 hW.2.1 hW.2.2 hA (fun _ => rfl) hn rfl hbytes hcells hslots hdg (fun q cA H1 hK1 hP hD hS => ?_)
  have e1 : s.vm.findClass ("[" ++ (FieldType.boolean).toString) = some cA := (hK1.2 4 _ rfl).2
  have e2 : s.vm.findClass ("[" ++ (FieldType.boolean).toString) = some (AC 103) := (hK.2 3 _ rfl).2
  obtain rfl : cA = AC 103 := Option.some.inj (e1.symm.trans e2)
  have h := bw_push (w := w) (kd := 103) (n := n.toNatClampNeg) hW hP hD hS (by
    rw [bw_c_a (w := bw_new w q 103 n.toNatClampNeg) (kd := 103) (va_up_self _ _ _) (by decide)]
    show Sum.inl (AC 103, va_up (wN w) q n.toNatClampNeg q, bw_ar 103 (va_up (wI w) q (fun _ => 0) q) (va_up (wR w) q (fun _ => none) q) (va_up (wJ w) q (fun _ => 0) q)) = _
    rw [va_up_self, va_up_self, va_up_self, va_up_self]
    rfl)
  exact kk q H1 h.1 h.2
theorem bw_newJ (C : Cx p l s m args meth c D AC e0 mi A y0 cc nL ret0) (hW : HW D cls8 FTc AC A s.heap H locs w) (harr : Cond.arrayClass .long ∈ TBL) {n : Int32} (hn : ¬ n < 0) (hbytes : n.toNatClampNeg * 8 ≤ 536870912) (hcells : cells + 1 ≤ R.cells) (hslots : slots + n.toNatClampNeg ≤ R.slots) (hdg : decode cc pc = .ok (.newarray .long, 2))
    (kk : ∀ (q : Nat) (H1 : Heap), q ∉ wL w → HW D cls8 FTc AC A s.heap H1 locs (bw_new w q 102 n.toNatClampNeg) → W p l e R s m args below meth c H1 locs (cells + 1) (slots + n.toNatClampNeg) Qf (F0 m (pc + 2) ls (va_rf (some q) :: rest))) : W p l e R s m args below meth c H locs cells slots Qf (F0 m pc ls (.int n :: rest)) := by
  obtain ⟨hl, hx, hb, hr0, ht, hown, hlocks, hnm, hml, hex, hK, hA, hZ, hV⟩ := C
  refine va_newa (atype := .long) (ty := .long) (a0 := (n.toNatClampNeg, .inr (.inl (fun _ => 0)))) hx hb (ht _ harr) rfl hK hW.1 hW.2.1 hW.2.2 hA (fun _ => rfl) hn rfl hbytes hcells hslots hdg (fun q cA H1 hK1 hP hD hS => ?_)
  have e1 : s.vm.findClass ("[" ++ (FieldType.long).toString) = some cA := (hK1.2 4 _ rfl).2
  have e2 : s.vm.findClass ("[" ++ (FieldType.long).toString) = some (AC 102) := (hK.2 2 _ rfl).2
  obtain rfl : cA = AC 102 := Option.some.inj (e1.symm.trans e2)
  have h := bw_push (w := w) (kd := 102) (n := n.toNatClampNeg) hW hP hD hS (by
    rw [bw_c_a (w := bw_new w q 102 n.toNatClampNeg) (kd := 102) (va_up_self _ _ _) (by decide)]
    show Sum.inl (AC 102, va_up (wN w) q n.toNatClampNeg q, bw_ar 102 (va_up (wI w) q (fun _ => 0) q) (va_up (wR w) q (fun _ => none) q) (va_up (wJ w) q (fun _ => 0) q)) = _
    rw [va_up_self, va_up_self, va_up_self, va_up_self]
    rfl)
  exact kk q H1 h.1 h.2
/-- (X) r, where r is null or an object of just that class -/
theorem bw_cast (C : Cx p l s m args meth c D AC e0 mi A y0 cc nL ret0) (hW : HW D cls8 FTc AC A s.heap H locs w) {nm : String} {index cn N : Nat} {T : u_T} {r : Option Nat} (hlink : Cond.classLink y0.cls index nm ∈ TBL) (hcn : cls8[cn]? = some (nm, T, N)) (h100 : cn < 100) (hca : (nm, nm) ∈ CASTS) (hr : ∀ a, r = some a → bw_is w a cn) (hdg : decode cc pc = .ok (.checkcast index, 3))
    (kk : W p l e R s m args below meth c H locs cells slots Qf (F0 m (pc + 3) ls (va_rf r :: rest))) : W p l e R s m args below meth c H locs cells slots Qf (F0 m pc ls (va_rf r :: rest)) := by
  obtain ⟨hl, hx, hb, hr0, ht, hown, hlocks, hnm, hml, hex, hK, hA, hZ, hV⟩ := C
  cases r with
  | none => exact lv_castN hx hb hdg kk
  | some a =>
    have ha := hr a rfl
    obtain ⟨q0, hq⟩ := va_pl_get (X := []) (f := bw_c FTc AC w) ha.1
    rw [bw_c_o ha.2 h100] at hq
    exact va_castY hx hb hown (ht _ hlink) (hV.2.1 (nm, nm) hca) (va_recv hK hW.1 hcn hq) hdg kk
end BWA
end
section
/-! small rows that the walker uses -/
theorem bw_bud {c n m k : Nat} (h : c + n ≤ m) (hk : k ≤ n) : c + k + (n - k) ≤ m := by omega
theorem bw_bud0 {c n m : Nat} (h : c + n ≤ m) : c + 0 + n ≤ m := h
def bw_b (v : Int32) : Prop := v = 0 ∨ v = 1
theorem bw_bn {v : Int32} (h : bw_b v) : narrow .boolean (.int v) = .int v := by rcases h with rfl | rfl <;> rfl
theorem bw_bf {v : Int32} (h : bw_b v) : fits .boolean (.int v) = true := by rcases h with rfl | rfl <;> rfl
theorem bw_is_new {w : Wd} {q kd n a ci : Nat} (hq : q ∉ wL w) (h : bw_is w a ci) : bw_is (bw_new w q kd n) a ci :=
  ⟨List.mem_append_left _ h.1, (va_up_ne (wK w) (k := q) (j := a) kd (fun e => hq (e ▸ h.1))).trans h.2⟩
theorem bw_is_self (w : Wd) (q kd n : Nat) : bw_is (bw_new w q kd n) q kd := ⟨List.mem_append_right _ List.mem_cons_self, va_up_self _ _ _⟩
theorem cat_i (v : Int32) : (Value.int v).category = 1 := rfl
theorem cat_j (v : Int64) : (Value.long v).category = 2 := rfl
/-- the length of an Object[]: of ArrayList's empty one, or of one of the world -/
def bw_len (e0 : Nat) (w : Wd) (r : Option Nat) (n : Nat) : Prop := (r = some e0 ∧ n = 0) ∨ ∃ a : Nat, r = some a ∧ bw_is w a 100 ∧ n = wN w a
/-- a reference that may stand in an Object[] -/
def bw_el (w : Wd) (r : Option Nat) : Prop := ∀ b, r = some b → ∃ cn, bw_is w b cn ∧ cn < 6 ∧ cn ≠ 5
section BWX
variable {p : Program} {l : Launch} {e : Env} {R : Room} {s : State} {m : MethodId} {args : Array Value} {below : List Frame} {meth : Method} {c : Code} {H : Heap} {locs : List Loc} {cells slots : Nat} {Qf : State → Prop}
variable {cc : ByteArray} {pc : Nat} {ls : Array Slot} {rest : List Value} {D : va_G} {AC : Nat → ClassId} {A : Nat → Prop} {w : Wd} {e0 mi : Nat} {nL : Nat} {y0 : MethodName} {ret0 : Option FieldType} {Q : Option Value → Wd → Prop} {X : String → Wd → Prop} {mc ms : Nat}
theorem bw_alenq (C : Cx p l s m args meth c D AC e0 mi A y0 cc nL ret0) (hW : HW D cls8 FTc AC A s.heap H locs w) {r : Option Nat} {n : Nat} (hr : bw_len e0 w r n) (hdg : decode cc pc = .ok (.arraylength, 1))
    (kk : W p l e R s m args below meth c H locs cells slots Qf (F0 m (pc + 1) ls (.int (nI n) :: rest))) : W p l e R s m args below meth c H locs cells slots Qf (F0 m pc ls (va_rf r :: rest)) := by
  rcases hr with ⟨rfl, rfl⟩ | ⟨a, rfl, ha, rfl⟩
  · obtain ⟨hl, hx, hb, hr0, ht, hown, hlocks, hnm, hml, hex, hK, hA, hZ, hV⟩ := C
    exact va_tlen hx hb hZ.2.2.2 hW.2.2 rfl hdg kk
  · exact bw_alen C hW rfl ha (by decide) (t0 := 0) rfl hdg kk
theorem bw_ra (hK : va_K D cls8 (tysA AC) s) : s.vm.findClass ("[" ++ (FieldType.object "java/lang/Object").toString) = some (AC 100) := by
  obtain ⟨kA, comp, h1, h2, h3, h4⟩ : va_RA s (AC 100) (.object "java/lang/Object") := (hK.2 0 _ rfl).2
  exact h4
/-- new Object[n] -/
theorem bw_newq (C : Cx p l s m args meth c D AC e0 mi A y0 cc nL ret0) (hW : HW D cls8 FTc AC A s.heap H locs w) {index : Nat} (hlink : Cond.classLink y0.cls index "java/lang/Object" ∈ TBL) {n : Int32} (hn : ¬ n < 0) (hbytes : n.toNatClampNeg * 4 ≤ 536870912) (hcells : cells + 1 ≤ R.cells) (hslots : slots + n.toNatClampNeg ≤ R.slots) (hdg : decode cc pc = .ok (.anewarray index, 3))
    (kk : ∀ (q : Nat) (H1 : Heap), q ∉ wL w → HW D cls8 FTc AC A s.heap H1 locs (bw_new w q 100 n.toNatClampNeg) → W p l e R s m args below meth c H1 locs (cells + 1) (slots + n.toNatClampNeg) Qf (F0 m (pc + 3) ls (va_rf (some q) :: rest))) : W p l e R s m args below meth c H locs cells slots Qf (F0 m pc ls (.int n :: rest)) := by
  obtain ⟨hl, hx, hb, hr0, ht, hown, hlocks, hnm, hml, hex, hK, hA, hZ, hV⟩ := C
  refine va_newq hx hb hown (ht _ hlink) hV.2.2.2.1 hK hW.1 hW.2.1 hW.2.2 hA hn rfl hbytes hcells hslots hdg (fun q cA H1 hK1 hP hD hS => ?_)
  obtain ⟨kA, comp, -, -, -, e1⟩ : va_RA s cA (.object "java/lang/Object") := (hK1.2 4 _ rfl).2
  obtain rfl : cA = AC 100 := Option.some.inj (e1.symm.trans (bw_ra hK))
  have h := bw_push (w := w) (kd := 100) (n := n.toNatClampNeg) hW hP hD hS (by
    rw [bw_c_a (w := bw_new w q 100 n.toNatClampNeg) (kd := 100) (va_up_self _ _ _) (by decide)]
    show Sum.inl (AC 100, va_up (wN w) q n.toNatClampNeg q, bw_ar 100 (va_up (wI w) q (fun _ => 0) q) (va_up (wR w) q (fun _ => none) q) (va_up (wJ w) q (fun _ => 0) q)) = _
    rw [va_up_self, va_up_self, va_up_self, va_up_self]
    rfl)
  exact kk q H1 h.1 h.2
theorem bw_any (hK : va_K D cls8 (tysA AC) s) (hV : SV mi s) (hW : HW D cls8 FTc AC A s.heap H locs w) {b : Nat} (h : ∃ cn, bw_is w b cn ∧ cn < 6 ∧ cn ≠ 5) : va_Any "java/lang/Object" s H b := by
  obtain ⟨cn, hbn, hlt, h5⟩ := h
  obtain ⟨qk, hqk⟩ := va_pl_get (X := []) (f := bw_c FTc AC w) hbn.1
  rw [bw_c_o hbn.2 (by omega)] at hqk
  have go : ∀ (nm : String) (T : u_T) (N : Nat), cls8[cn]? = some (nm, T, N) → (nm, "java/lang/Object") ∈ CASTS → va_Any "java/lang/Object" s H b := by
    intro nm T N hcn hca
    refine va_rAny hK hW.1 hqk hcn (fun comp c0 h1 h2 => ?_)
    obtain ⟨c3, c4, hc3, hc4, hasg⟩ := Cond.castable_spec (hV.2.1 (nm, "java/lang/Object") hca)
    cases Option.some.inj (hc3.symm.trans h2)
    cases Option.some.inj (hc4.symm.trans h1)
    exact hasg
  match cn, hlt, h5, go with
  | 0, _, _, go => exact go _ _ _ rfl (by decide +kernel)
  | 1, _, _, go => exact go _ _ _ rfl (by decide +kernel)
  | 2, _, _, go => exact go _ _ _ rfl (by decide +kernel)
  | 3, _, _, go => exact go _ _ _ rfl (by decide +kernel)
  | 4, _, _, go => exact go _ _ _ rfl (by decide +kernel)
  | 5, _, h5, _ => exact absurd rfl h5
end BWX
/-- switches from 0 -/
theorem bw_i32 {x : Int32} {k : Int} (h : x.toInt = k) (hk : (Int32.ofInt k).toInt = k) : x = Int32.ofInt k := Int32.toInt_inj.mp (h.trans hk.symm)
theorem bw_sw4 {x : Int32} (h : ¬ (x.toInt < 0 ∨ 3 < x.toInt)) : x = 0 ∨ x = 1 ∨ x = 2 ∨ x = 3 := by
  have h4 : x.toInt = 0 ∨ x.toInt = 1 ∨ x.toInt = 2 ∨ x.toInt = 3 := by omega
  rcases h4 with h | h | h | h
  · exact Or.inl (bw_i32 h (by decide))
  · exact Or.inr (Or.inl (bw_i32 h (by decide)))
  · exact Or.inr (Or.inr (Or.inl (bw_i32 h (by decide))))
  · exact Or.inr (Or.inr (Or.inr (bw_i32 h (by decide))))
theorem bw_sw7 {x : Int32} (h : ¬ (x.toInt < 0 ∨ 6 < x.toInt)) : x = 0 ∨ x = 1 ∨ x = 2 ∨ x = 3 ∨ x = 4 ∨ x = 5 ∨ x = 6 := by
  have h4 : x.toInt = 0 ∨ x.toInt = 1 ∨ x.toInt = 2 ∨ x.toInt = 3 ∨ x.toInt = 4 ∨ x.toInt = 5 ∨ x.toInt = 6 := by omega
  rcases h4 with h | h | h | h | h | h | h <;> have h := bw_i32 h (by decide) <;> rw [h] <;> decide
theorem bw_sw8 {x : Int32} (h : ¬ (x.toInt < 0 ∨ 7 < x.toInt)) : x = 0 ∨ x = 1 ∨ x = 2 ∨ x = 3 ∨ x = 4 ∨ x = 5 ∨ x = 6 ∨ x = 7 := by
  have h4 : x.toInt = 0 ∨ x.toInt = 1 ∨ x.toInt = 2 ∨ x.toInt = 3 ∨ x.toInt = 4 ∨ x.toInt = 5 ∨ x.toInt = 6 ∨ x.toInt = 7 := by omega
  rcases h4 with h | h | h | h | h | h | h | h <;> have h := bw_i32 h (by decide) <;> rw [h] <;> decide
theorem bw_sw9 {x : Int32} (h : ¬ (x.toInt < 0 ∨ 8 < x.toInt)) : x = 0 ∨ x = 1 ∨ x = 2 ∨ x = 3 ∨ x = 4 ∨ x = 5 ∨ x = 6 ∨ x = 7 ∨ x = 8 := by
  have h4 : x.toInt = 0 ∨ x.toInt = 1 ∨ x.toInt = 2 ∨ x.toInt = 3 ∨ x.toInt = 4 ∨ x.toInt = 5 ∨ x.toInt = 6 ∨ x.toInt = 7 ∨ x.toInt = 8 := by omega
  rcases h4 with h | h | h | h | h | h | h | h | h <;> have h := bw_i32 h (by decide) <;> rw [h] <;> decide
end
section
/-! an object of each class as it is made; further words -/
theorem df_Bt : ∀ j, j < 9 → defaultValue (y_Bt j) = vp_V (bw_f (FTc 0) 0 (fun _ => 0) (fun _ => none) (fun _ => 0)) j := by
  intro j hj
  match j, hj with
  | 0, _ => rfl
  | 1, _ => rfl
  | 2, _ => rfl
  | 3, _ => rfl
  | 4, _ => rfl
  | 5, _ => rfl
  | 6, _ => rfl
  | 7, _ => rfl
  | 8, _ => rfl
  | j + 9, h => exact absurd h (by omega)
theorem df_Ed : ∀ j, j < 4 → defaultValue (y_Ed j) = vp_V (bw_f (FTc 1) 0 (fun _ => 0) (fun _ => none) (fun _ => 0)) j := by
  intro j hj
  match j, hj with
  | 0, _ => rfl
  | 1, _ => rfl
  | 2, _ => rfl
  | 3, _ => rfl
  | j + 4, h => exact absurd h (by omega)
theorem df_It : ∀ j, j < 11 → defaultValue (y_It j) = vp_V (bw_f (FTc 2) 0 (fun _ => 0) (fun _ => none) (fun _ => 0)) j := by
  intro j hj
  match j, hj with
  | 0, _ => rfl
  | 1, _ => rfl
  | 2, _ => rfl
  | 3, _ => rfl
  | 4, _ => rfl
  | 5, _ => rfl
  | 6, _ => rfl
  | 7, _ => rfl
  | 8, _ => rfl
  | 9, _ => rfl
  | 10, _ => rfl
  | j + 11, h => exact absurd h (by omega)
theorem df_Sc : ∀ j, j < 4 → defaultValue (y_Sc j) = vp_V (bw_f (FTc 3) 0 (fun _ => 0) (fun _ => none) (fun _ => 0)) j := by
  intro j hj
  match j, hj with
  | 0, _ => rfl
  | 1, _ => rfl
  | 2, _ => rfl
  | 3, _ => rfl
  | j + 4, h => exact absurd h (by omega)
theorem df_Wy : ∀ j, j < 3 → defaultValue (y_Wy j) = vp_V (bw_f (FTc 4) 0 (fun _ => 0) (fun _ => none) (fun _ => 0)) j := by
  intro j hj
  match j, hj with
  | 0, _ => rfl
  | 1, _ => rfl
  | 2, _ => rfl
  | j + 3, h => exact absurd h (by omega)
theorem df_Br : ∀ j, j < 9 → defaultValue (y_Br j) = vp_V (bw_f (FTc 5) 0 (fun _ => 0) (fun _ => none) (fun _ => 0)) j := by
  intro j hj
  match j, hj with
  | 0, _ => rfl
  | 1, _ => rfl
  | 2, _ => rfl
  | 3, _ => rfl
  | 4, _ => rfl
  | 5, _ => rfl
  | 6, _ => rfl
  | 7, _ => rfl
  | 8, _ => rfl
  | j + 9, h => exact absurd h (by omega)
theorem df_Mo : ∀ j, j < 32 → defaultValue (y_Mo j) = vp_V (bw_f (FTc 6) 0 (fun _ => 0) (fun _ => none) (fun _ => 0)) j := by
  intro j hj
  match j, hj with
  | 0, _ => rfl
  | 1, _ => rfl
  | 2, _ => rfl
  | 3, _ => rfl
  | 4, _ => rfl
  | 5, _ => rfl
  | 6, _ => rfl
  | 7, _ => rfl
  | 8, _ => rfl
  | 9, _ => rfl
  | 10, _ => rfl
  | 11, _ => rfl
  | 12, _ => rfl
  | 13, _ => rfl
  | 14, _ => rfl
  | 15, _ => rfl
  | 16, _ => rfl
  | 17, _ => rfl
  | 18, _ => rfl
  | 19, _ => rfl
  | 20, _ => rfl
  | 21, _ => rfl
  | 22, _ => rfl
  | 23, _ => rfl
  | 24, _ => rfl
  | 25, _ => rfl
  | 26, _ => rfl
  | 27, _ => rfl
  | 28, _ => rfl
  | 29, _ => rfl
  | 30, _ => rfl
  | 31, _ => rfl
  | j + 32, h => exact absurd h (by omega)
theorem df_Al : ∀ j, j < 3 → defaultValue (y_Al j) = vp_V (bw_f (FTc 7) 0 (fun _ => 0) (fun _ => none) (fun _ => 0)) j := by
  intro j hj
  match j, hj with
  | 0, _ => rfl
  | 1, _ => rfl
  | 2, _ => rfl
  | j + 3, h => exact absurd h (by omega)
theorem m_58 : (Jvm.Cond.superclass "java/util/ArrayList" "java/util/AbstractList") ∈ TBL := tbl_1 58 rfl rfl
theorem m_86 : (Jvm.Cond.superclass "BeltRows" "java/lang/Object") ∈ TBL := tbl_1 86 rfl rfl
theorem m_148 : (Jvm.Cond.superclass "java/lang/Throwable" "java/lang/Object") ∈ TBL := tbl_1 148 rfl rfl
theorem m_158 : (Jvm.Cond.sameMethod "java/lang/Throwable" "java/lang/Throwable" "fillInStackTrace" "()Ljava/lang/Throwable;") ∈ TBL := tbl_1 158 rfl rfl
theorem m_163 : (Jvm.Cond.codeSync ({ cls := "java/lang/Throwable", name := "fillInStackTrace", desc := "()Ljava/lang/Throwable;" } : Jvm.MethodName) prog_20_method_18_code (1 : Nat) (Option.some (Jvm.ClassFile.FieldType.object "java/lang/Throwable"))) ∈ TBL := tbl_1 163 rfl rfl
theorem m_168 : (Jvm.Cond.native ({ cls := "java/lang/Throwable", name := "fillInStackTrace", desc := "(I)Ljava/lang/Throwable;" } : Jvm.MethodName)) ∈ TBL := tbl_1 168 rfl rfl
theorem m_194 : (Jvm.Cond.superclass "java/lang/IllegalArgumentException" "java/lang/RuntimeException") ∈ TBL := tbl_1 194 rfl rfl
theorem m_211 : (Jvm.Cond.superclass "java/lang/UnsupportedOperationException" "java/lang/RuntimeException") ∈ TBL := tbl_1 211 rfl rfl
theorem m_235 : (Jvm.Cond.superclass "BeltRows$Way" "java/lang/Object") ∈ TBL := tbl_1 235 rfl rfl
theorem m_273 : (Jvm.Cond.superclass "BeltRows$Belt" "java/lang/Object") ∈ TBL := tbl_2 33 rfl rfl
theorem m_305 : (Jvm.Cond.sameMethod "java/lang/Object" "java/lang/Object" "getClass" "()Ljava/lang/Class;") ∈ TBL := tbl_2 65 rfl rfl
theorem m_319 : (Jvm.Cond.native ({ cls := "java/lang/Object", name := "getClass", desc := "()Ljava/lang/Class;" } : Jvm.MethodName)) ∈ TBL := tbl_2 79 rfl rfl
theorem m_331 : (Jvm.Cond.native ({ cls := "java/lang/System", name := "arraycopy", desc := "(Ljava/lang/Object;ILjava/lang/Object;II)V" } : Jvm.MethodName)) ∈ TBL := tbl_2 91 rfl rfl
theorem m_361 : (Jvm.Cond.superclass "java/util/NoSuchElementException" "java/lang/RuntimeException") ∈ TBL := tbl_2 121 rfl rfl
theorem m_419 : (Jvm.Cond.superclass "BeltRows$Scanner" "java/lang/Object") ∈ TBL := tbl_2 179 rfl rfl
theorem m_490 : (Jvm.Cond.superclass "BeltRows$Item" "java/lang/Object") ∈ TBL := tbl_3 10 rfl rfl
theorem m_534 : (Jvm.Cond.superclass "java/lang/IllegalStateException" "java/lang/RuntimeException") ∈ TBL := tbl_3 54 rfl rfl
theorem m_610 : (Jvm.Cond.superclass "BeltRows$Edge" "java/lang/Object") ∈ TBL := tbl_3 130 rfl rfl
theorem m_737 : (Jvm.Cond.superclass "java/lang/ArithmeticException" "java/lang/RuntimeException") ∈ TBL := tbl_4 17 rfl rfl
theorem m_840 : (Jvm.Cond.superclass "BeltRowsModel" "java/lang/Object") ∈ TBL := tbl_4 120 rfl rfl
theorem m_981 : (Jvm.Cond.sameMethod "java/lang/Throwable" "java/lang/Throwable" "fillInStackTrace" "(I)Ljava/lang/Throwable;") ∈ TBL := tbl_5 21 rfl rfl
theorem m_986 : (Jvm.Cond.sameMethod "[Ljava/lang/Object;" "java/lang/Object" "getClass" "()Ljava/lang/Class;") ∈ TBL := tbl_5 26 rfl rfl
end
section
/-! rows of the JDK's natives over the world -/
section BWY
variable {p : Program} {l : Launch} {e : Env} {R : Room} {s : State} {m : MethodId} {args : Array Value} {below : List Frame} {meth : Method} {c : Code} {H : Heap} {locs : List Loc} {cells slots : Nat} {Qf : State → Prop}
variable {cc : ByteArray} {pc : Nat} {ls : Array Slot} {rest : List Value} {D : va_G} {AC : Nat → ClassId} {A : Nat → Prop} {w : Wd} {e0 mi : Nat} {nL : Nat} {y0 : MethodName} {ret0 : Option FieldType}
/-- System.arraycopy of references -/
theorem bw_copy (C : Cx p l s m args meth c D AC e0 mi A y0 cc nL ret0) (hW : HW D cls8 FTc AC A s.heap H locs w) (hls : ls.size = nL) {index : Nat} (hlink : Cond.methodLink y0.cls index arraycopyName ∈ TBL) (hnat : Cond.native arraycopyName ∈ TBL) (hst : Cond.static arraycopyName ∈ TBL) (hini : Cond.initialized "java/lang/System" ∈ TBL) {r0 r1 : Option Nat} {a0 a1 : Nat} (hr0 : r0 = some a0) (hr1 : r1 = some a1) (h0 : bw_is w a0 100) (h1 : bw_is w a1 100)
    {sp dp n : Int32} (g1 : ¬ sp < 0) (g2 : ¬ dp < 0) (g3 : ¬ n < 0) (g4 : sp.toNatClampNeg + n.toNatClampNeg ≤ wN w a0) (g5 : dp.toNatClampNeg + n.toNatClampNeg ≤ wN w a1) (hel : ∀ i : Nat, i < n.toNatClampNeg → bw_el w (wR w a0 (sp.toNatClampNeg + i)))
    (hframes : 1 ≤ R.frames) (hlocals : (rest.map fun v => v.category).sum + (nativeFrameWords "java/lang/System" "arraycopy" 5 + 11) ≤ R.locals) (hdg : decode cc pc = .ok (.invokestatic index, 3))
    (kk : ∀ (H1 : Heap) (locs1 : List Loc), HW D cls8 FTc AC A s.heap H1 locs1 (sRow w a1 (va_cpy (wR w a0) (wR w a1) sp.toNatClampNeg dp.toNatClampNeg n.toNatClampNeg)) → W p l e R s m args below meth c H1 locs1 cells slots Qf (F0 m (pc + 3) ls rest)) : W p l e R s m args below meth c H locs cells slots Qf (F0 m pc ls (.int n :: .int dp :: va_rf r1 :: .int sp :: va_rf r0 :: rest)) := by
  obtain ⟨hl, hx, hb, hr2, ht, hown, hlocks, hnm, hml, hex, hK, hA, hZ, hV⟩ := C
  subst hr0; subst hr1
  obtain ⟨q0, hq0⟩ := va_pl_get (X := []) (f := bw_c FTc AC w) h0.1
  obtain ⟨q1, hq1⟩ := va_pl_get (X := []) (f := bw_c FTc AC w) h1.1
  have hq2 := hq1
  rw [bw_c_a h0.2 (by decide)] at hq0
  rw [bw_c_a h1.2 (by decide)] at hq2
  refine va_copyM hx hb (hml.trans hls.symm) hown (ht _ hlink) (ht _ hnat) (ht _ hst) (ht _ hini) hK hW.1 hW.2.1 hW.2.2 q0 q1 0 0 hq0 hq2 rfl rfl g1 g2 g3 g4 g5 (fun i hi y hy => bw_any hK hV hW (hel i hi y hy)) hframes hlocals hdg (fun H1 locs1 hP hD hS => ?_)
  refine kk H1 locs1 (bw_put (w' := sRow w a1 (va_cpy (wR w a0) (wR w a1) sp.toNatClampNeg dp.toNatClampNeg n.toNatClampNeg)) hW h1.1 hq1 hP hD hS rfl (bw_upc rfl rfl ?_ (fun b hb => ⟨rfl, va_up_ne _ _ hb, rfl⟩)))
  rw [bw_c_a (w := sRow w a1 (va_cpy (wR w a0) (wR w a1) sp.toNatClampNeg dp.toNatClampNeg n.toNatClampNeg)) (kd := 100) h1.2 (by decide)]
  show Sum.inl (AC 100, wN w a1, bw_ar 100 (wI w a1) (va_up (wR w) a1 (va_cpy (wR w a0) (wR w a1) sp.toNatClampNeg dp.toNatClampNeg n.toNatClampNeg) a1) (wJ w a1)) = _
  rw [va_up_self]
  rfl
/-- getClass() of an Object[] -/
theorem bw_getC (C : Cx p l s m args meth c D AC e0 mi A y0 cc nL ret0) (hW : HW D cls8 FTc AC A s.heap H locs w) (hls : ls.size = nL) {index : Nat} (hlink : Cond.methodLink y0.cls index ⟨"java/lang/Object", "getClass", "()Ljava/lang/Class;"⟩ ∈ TBL) (hsel : Cond.selects "[Ljava/lang/Object;" ⟨"java/lang/Object", "getClass", "()Ljava/lang/Class;"⟩ ⟨"java/lang/Object", "getClass", "()Ljava/lang/Class;"⟩ ∈ TBL) (hinst : Cond.instanceMethod ⟨"java/lang/Object", "getClass", "()Ljava/lang/Class;"⟩ ∈ TBL) (hnat : Cond.native ⟨"java/lang/Object", "getClass", "()Ljava/lang/Class;"⟩ ∈ TBL) {r : Option Nat} {a : Nat} (hr : r = some a) (ha : bw_is w a 100)
    (hframes : 1 ≤ R.frames) (hlocals : (rest.map fun v => v.category).sum + 14 ≤ R.locals) (hdg : decode cc pc = .ok (.invokevirtual index, 3))
    (kk : W p l e R s m args below meth c H locs cells slots Qf (F0 m (pc + 3) ls (va_rf (some mi) :: rest))) : W p l e R s m args below meth c H locs cells slots Qf (F0 m pc ls (va_rf r :: rest)) := by
  obtain ⟨hl, hx, hb, hr2, ht, hown, hlocks, hnm, hml, hex, hK, hA, hZ, hV⟩ := C
  subst hr
  obtain ⟨q0, hq0⟩ := va_pl_get (X := []) (f := bw_c FTc AC w) ha.1
  rw [bw_c_a ha.2 (by decide)] at hq0
  have hcell : H[a]? = some (vp_cell (AC 100) (wN w a, bw_ar 100 (wI w a) (wR w a) (wJ w a))) := hW.1 q0 _ hq0
  exact va_getC hx hb (hml.trans hls.symm) hown (ht _ hlink) ((hV.2.2.1 ⟨"java/lang/Object", "getClass", "()Ljava/lang/Class;"⟩ (by decide +kernel)).use rfl) (ht _ hsel) (ht _ hinst) (ht _ hnat) hV.2.2.2.2 ⟨_, hcell, rfl, bw_ra hK⟩ hframes hlocals hdg kk
theorem bw_ldcM (C : Cx p l s m args meth c D AC e0 mi A y0 cc nL ret0) {index : Nat} (hlink : Cond.classLink y0.cls index "[Ljava/lang/Object;" ∈ TBL) (hdg : decode cc pc = .ok (.ldc index, 2))
    (kk : W p l e R s m args below meth c H locs cells slots Qf (F0 m (pc + 2) ls (va_rf (some mi) :: rest))) : W p l e R s m args below meth c H locs cells slots Qf (F0 m pc ls rest) := by
  obtain ⟨hl, hx, hb, hr2, ht, hown, hlocks, hnm, hml, hex, hK, hA, hZ, hV⟩ := C
  exact va_ldcM hx hb hown (ht _ hlink) hV.2.2.2.2 hdg kk
end BWY
end
section
/-! printed by wip/gen/walk.py out of the bytecode: It_rear It_forgetWay Wy_init Wy_nextNumber Wy_leadTo Wy_isDueBefore Ed_init Sc_init It_init It_startOn Bt_init Bt_wayNumbered Bt_wayOf Bt_itemAtEnd Bt_wayInUse Bt_takeOn Bt_letGo It_leave It_goOn -/
def wp_It_rear (e0 mi : Nat) (x0 : Nat) (w : Wd) (Q : Int32 → Wd → Prop) : Prop :=
  bw_is w x0 2 ∧ (Q ((wI w x0 7) - (wI w x0 1)) w)
set_option maxHeartbeats 4000000 in
set_option maxRecDepth 100000 in
theorem k_It_rear_0 {p : Program} {l : Launch} {e : Env} {s : State} {m : MethodId} {args : Array Value} {below : List Frame} {meth : Method} {c : Code} {D : va_G} {AC : Nat → ClassId} {e0 mi : Nat} {A : Nat → Prop} {mc ms : Nat} {Q : Int32 → Wd → Prop} (C : Cx p l s m args meth c D AC e0 mi A n_It_rear b_It_rear 1 (some .int)) (x0 : Nat) (w : Wd) (hq : wp_It_rear e0 mi x0 w Q) : ∀ (H : Heap) (locs : List Loc) (cells slots : Nat) (ls : Array Slot), HW D cls8 FTc AC A s.heap H locs w → lv_has ls 1 [(0, va_rf (some x0))] → cells ≤ mc → slots ≤ ms → W p l e { frames := 0, cells := mc, slots := ms, locals := 0 } s m args below meth c H locs cells slots (vx_MQ below (QQ D AC A (fun v w9 => ∃ r9 : Int32, v = some (.int r9) ∧ Q r9 w9)) (XX D AC A (fun _ _ => False)) args s mc ms A) (F0 m 0 ls []) := by
  obtain ⟨hl0, hx, hb, hr, ht, hown, hlocks, hnm, hml, hex, hK, hA, hZ, hV⟩ := id C
  intro H locs cells slots ls hW hl hc hs
  unfold wp_It_rear at hq
  refine bw_aload_n hx hb d_It_rear_0 rfl (lv_at hl 0 rfl) ?_
  obtain ⟨t1, hq⟩ := hq
  refine bw_getI hx hb ht in_It hown hK hW rfl t1 (by decide) rfl 7 (by decide) rfl (ht _ m_458) (fun _ h => h) d_It_rear_1 ?_
  refine bw_aload_n hx hb d_It_rear_4 rfl (lv_at hl 0 rfl) ?_
  refine bw_getI hx hb ht in_It hown hK hW rfl t1 (by decide) rfl 1 (by decide) rfl (ht _ m_445) (fun _ h => h) d_It_rear_5 ?_
  refine lv_isub hx hb d_It_rear_8 ?_
  exact bw_iret C hW ⟨_, rfl, hq⟩ d_It_rear_9 hc hs
theorem ci_It_rear : CI n_It_rear b_It_rear 1 (some .int) 0 := ⟨m_435, m_21, by decide, by decide, by decide +kernel⟩
theorem c_It_rear {l : Launch} {D : va_G} {AC : Nat → ClassId} {e0 mi : Nat} {Q : Int32 → Wd → Prop} (hl0 : l.stackTraces = false) (x0 : Nat) (w : Wd) (hq : wp_It_rear e0 mi x0 w Q) : Ct l D AC e0 mi n_It_rear (wy n_It_rear b_It_rear 1 (some .int)) 0 0 [va_rf (some x0)] w 0 0 (fun v w9 => ∃ r9 : Int32, v = some (.int r9) ∧ Q r9 w9) (fun _ _ => False) :=
  Ct.of hl0 (by decide) (by simp [lg_sl, bw_cat, cat_i, cat_j]) (fun p e s m args below meth c A ls C hW hl => k_It_rear_0 C x0 w hq s.heap [] 0 0 ls hW (by simpa [lv_args, bw_cat, cat_i, cat_j] using hl) (Nat.le_refl _) (Nat.le_refl _))
def wp_It_forgetWay (e0 mi : Nat) (x0 : Nat) (w : Wd) (Q : Wd → Prop) : Prop :=
  bw_is w x0 2 ∧ (Q (sI (sI w x0 9 (0 : Int32)) x0 10 (0 : Int32)))
set_option maxHeartbeats 4000000 in
set_option maxRecDepth 100000 in
theorem k_It_forgetWay_0 {p : Program} {l : Launch} {e : Env} {s : State} {m : MethodId} {args : Array Value} {below : List Frame} {meth : Method} {c : Code} {D : va_G} {AC : Nat → ClassId} {e0 mi : Nat} {A : Nat → Prop} {mc ms : Nat} {Q : Wd → Prop} (C : Cx p l s m args meth c D AC e0 mi A n_It_forgetWay b_It_forgetWay 1 none) (x0 : Nat) (w : Wd) (hq : wp_It_forgetWay e0 mi x0 w Q) : ∀ (H : Heap) (locs : List Loc) (cells slots : Nat) (ls : Array Slot), HW D cls8 FTc AC A s.heap H locs w → lv_has ls 1 [(0, va_rf (some x0))] → cells ≤ mc → slots ≤ ms → W p l e { frames := 0, cells := mc, slots := ms, locals := 0 } s m args below meth c H locs cells slots (vx_MQ below (QQ D AC A (fun v w9 => v = none ∧ Q w9)) (XX D AC A (fun _ _ => False)) args s mc ms A) (F0 m 0 ls []) := by
  obtain ⟨hl0, hx, hb, hr, ht, hown, hlocks, hnm, hml, hex, hK, hA, hZ, hV⟩ := id C
  intro H locs cells slots ls hW hl hc hs
  unfold wp_It_forgetWay at hq
  refine bw_aload_n hx hb d_It_forgetWay_0 rfl (lv_at hl 0 rfl) ?_
  refine lv_iconst (v := 0) hx hb d_It_forgetWay_1 (by decide) ?_
  obtain ⟨t1, hq⟩ := hq
  refine bw_putI hx hb ht in_It y_It yk_It nm_It hown hK hW rfl t1 (by decide) rfl 9 (by decide) rfl (ht _ m_463) (fun _ h => h) (Or.inl rfl) rfl rfl d_It_forgetWay_2 (fun H locs hW => ?_)
  refine bw_aload_n hx hb d_It_forgetWay_5 rfl (lv_at hl 0 rfl) ?_
  refine lv_iconst (v := 0) hx hb d_It_forgetWay_6 (by decide) ?_
  refine bw_putI hx hb ht in_It y_It yk_It nm_It hown hK hW rfl t1 (by decide) rfl 10 (by decide) rfl (ht _ m_466) (fun _ h => h) (Or.inl rfl) rfl rfl d_It_forgetWay_7 (fun H locs hW => ?_)
  exact bw_vret C hW ⟨rfl, hq⟩ d_It_forgetWay_10 hc hs
theorem ci_It_forgetWay : CI n_It_forgetWay b_It_forgetWay 1 none 0 := ⟨m_502, m_21, by decide, by decide, by decide +kernel⟩
theorem sel_It_forgetWay : Cond.selects "BeltRows$Item" n_It_forgetWay n_It_forgetWay ∈ TBL := List.mem_filter.mpr ⟨List.mem_append_left _ (List.mem_map.mpr ⟨(n_It_forgetWay, 11), by decide +kernel, rfl⟩), rfl⟩
theorem c_It_forgetWay {l : Launch} {D : va_G} {AC : Nat → ClassId} {e0 mi : Nat} {Q : Wd → Prop} (hl0 : l.stackTraces = false) (x0 : Nat) (w : Wd) (hq : wp_It_forgetWay e0 mi x0 w Q) : Ct l D AC e0 mi n_It_forgetWay (wy n_It_forgetWay b_It_forgetWay 1 none) 0 0 [va_rf (some x0)] w 0 0 (fun v w9 => v = none ∧ Q w9) (fun _ _ => False) :=
  Ct.of hl0 (by decide) (by simp [lg_sl, bw_cat, cat_i, cat_j]) (fun p e s m args below meth c A ls C hW hl => k_It_forgetWay_0 C x0 w hq s.heap [] 0 0 ls hW (by simpa [lv_args, bw_cat, cat_i, cat_j] using hl) (Nat.le_refl _) (Nat.le_refl _))
def wp_Wy_init (e0 mi : Nat) (x0 : Nat) (w : Wd) (Q : Wd → Prop) : Prop :=
  bw_is w x0 4 ∧ (Q (sI (sI (sR w x0 0 none) x0 1 (1 : Int32)) x0 2 (0 : Int32)))
set_option maxHeartbeats 4000000 in
set_option maxRecDepth 100000 in
theorem k_Wy_init_0 {p : Program} {l : Launch} {e : Env} {s : State} {m : MethodId} {args : Array Value} {below : List Frame} {meth : Method} {c : Code} {D : va_G} {AC : Nat → ClassId} {e0 mi : Nat} {A : Nat → Prop} {mc ms : Nat} {Q : Wd → Prop} (C : Cx p l s m args meth c D AC e0 mi A n_Wy_init b_Wy_init 1 none) (x0 : Nat) (w : Wd) (hq : wp_Wy_init e0 mi x0 w Q) : ∀ (H : Heap) (locs : List Loc) (cells slots : Nat) (ls : Array Slot), HW D cls8 FTc AC A s.heap H locs w → lv_has ls 1 [(0, va_rf (some x0))] → cells ≤ mc → slots ≤ ms → W p l e { frames := 1, cells := mc, slots := ms, locals := 40 } s m args below meth c H locs cells slots (vx_MQ below (QQ D AC A (fun v w9 => v = none ∧ Q w9)) (XX D AC A (fun _ _ => False)) args s mc ms A) (F0 m 0 ls []) := by
  obtain ⟨hl0, hx, hb, hr, ht, hown, hlocks, hnm, hml, hex, hK, hA, hZ, hV⟩ := id C
  intro H locs cells slots ls hW hl hc hs
  unfold wp_Wy_init at hq
  refine bw_aload_n hx hb d_Wy_init_0 rfl (lv_at hl 0 rfl) ?_
  refine W.objInit hx hb hown (ht _ m_222) (ht _ m_31) (ht _ m_32) rfl (by rw [hml]; exact hl.1) rfl d_Wy_init_1 (Nat.le_of_ble_eq_true rfl) (Nat.le_of_ble_eq_true rfl) ?_
  refine W.eq (g2 := F0 m 4 ls []) rfl ?_
  refine bw_aload_n hx hb d_Wy_init_4 rfl (lv_at hl 0 rfl) ?_
  refine bw_null hx hb d_Wy_init_5 ?_
  obtain ⟨t1, hq⟩ := hq
  refine bw_putR hx hb ht in_Wy y_Wy yk_Wy nm_Wy hown hK hW rfl t1 (by decide) rfl 0 (by decide) rfl (ht _ m_223) (fun _ h => h) (Or.inl rfl) (bw_nr _ _) (bw_fr _ _) d_Wy_init_6 (fun H locs hW => ?_)
  refine bw_aload_n hx hb d_Wy_init_9 rfl (lv_at hl 0 rfl) ?_
  refine lv_iconst (v := 1) hx hb d_Wy_init_10 (by decide) ?_
  refine bw_putI hx hb ht in_Wy y_Wy yk_Wy nm_Wy hown hK hW rfl t1 (by decide) rfl 1 (by decide) rfl (ht _ m_226) (fun _ h => h) (Or.inl rfl) rfl rfl d_Wy_init_11 (fun H locs hW => ?_)
  refine bw_aload_n hx hb d_Wy_init_14 rfl (lv_at hl 0 rfl) ?_
  refine lv_iconst (v := 0) hx hb d_Wy_init_15 (by decide) ?_
  refine bw_putI hx hb ht in_Wy y_Wy yk_Wy nm_Wy hown hK hW rfl t1 (by decide) rfl 2 (by decide) rfl (ht _ m_227) (fun _ h => h) (Or.inl rfl) rfl rfl d_Wy_init_16 (fun H locs hW => ?_)
  exact bw_vret C hW ⟨rfl, hq⟩ d_Wy_init_19 hc hs
theorem ci_Wy_init : CI n_Wy_init b_Wy_init 1 none 0 := ⟨m_221, m_12, by decide, by decide, by decide +kernel⟩
theorem c_Wy_init {l : Launch} {D : va_G} {AC : Nat → ClassId} {e0 mi : Nat} {Q : Wd → Prop} (hl0 : l.stackTraces = false) (x0 : Nat) (w : Wd) (hq : wp_Wy_init e0 mi x0 w Q) : Ct l D AC e0 mi n_Wy_init (wy n_Wy_init b_Wy_init 1 none) 1 40 [va_rf (some x0)] w 0 0 (fun v w9 => v = none ∧ Q w9) (fun _ _ => False) :=
  Ct.of hl0 (by decide) (by simp [lg_sl, bw_cat, cat_i, cat_j]) (fun p e s m args below meth c A ls C hW hl => k_Wy_init_0 C x0 w hq s.heap [] 0 0 ls hW (by simpa [lv_args, bw_cat, cat_i, cat_j] using hl) (Nat.le_refl _) (Nat.le_refl _))
def wb_Wy_nextNumber_18 (e0 mi : Nat) (Q : Int32 → Wd → Prop) (x0 : Nat) (z0 : Int32) (w : Wd) : Prop :=
  Q z0 w
set_option maxHeartbeats 4000000 in
set_option maxRecDepth 100000 in
theorem k_Wy_nextNumber_18 {p : Program} {l : Launch} {e : Env} {s : State} {m : MethodId} {args : Array Value} {below : List Frame} {meth : Method} {c : Code} {D : va_G} {AC : Nat → ClassId} {e0 mi : Nat} {A : Nat → Prop} {mc ms : Nat} {Q : Int32 → Wd → Prop} (C : Cx p l s m args meth c D AC e0 mi A n_Wy_nextNumber b_Wy_nextNumber 1 (some .int)) (x0 : Nat) (z0 : Int32) (w : Wd) (hq : wb_Wy_nextNumber_18 e0 mi Q x0 z0 w) : ∀ (H : Heap) (locs : List Loc) (cells slots : Nat) (ls : Array Slot), HW D cls8 FTc AC A s.heap H locs w → lv_has ls 1 [(0, va_rf (some x0))] → cells ≤ mc → slots ≤ ms → W p l e { frames := 0, cells := mc, slots := ms, locals := 0 } s m args below meth c H locs cells slots (vx_MQ below (QQ D AC A (fun v w9 => ∃ r9 : Int32, v = some (.int r9) ∧ Q r9 w9)) (XX D AC A (fun _ _ => False)) args s mc ms A) (F0 m 18 ls [.int z0]) := by
  obtain ⟨hl0, hx, hb, hr, ht, hown, hlocks, hnm, hml, hex, hK, hA, hZ, hV⟩ := id C
  intro H locs cells slots ls hW hl hc hs
  unfold wb_Wy_nextNumber_18 at hq
  exact bw_iret C hW ⟨_, rfl, hq⟩ d_Wy_nextNumber_18 hc hs
def wp_Wy_nextNumber (e0 mi : Nat) (x0 : Nat) (w : Wd) (Q : Int32 → Wd → Prop) : Prop :=
  bw_is w x0 4 ∧ ((¬ (wR w x0 0) = none → (∃ a3 : Nat, (wR w x0 0) = some a3 ∧ (bw_is w a3 0 ∧ (wb_Wy_nextNumber_18 e0 mi Q x0 (wI w a3 0) w)))) ∧ ((wR w x0 0) = none → (wb_Wy_nextNumber_18 e0 mi Q x0 (-1 : Int32) w)))
set_option maxHeartbeats 4000000 in
set_option maxRecDepth 100000 in
theorem k_Wy_nextNumber_0 {p : Program} {l : Launch} {e : Env} {s : State} {m : MethodId} {args : Array Value} {below : List Frame} {meth : Method} {c : Code} {D : va_G} {AC : Nat → ClassId} {e0 mi : Nat} {A : Nat → Prop} {mc ms : Nat} {Q : Int32 → Wd → Prop} (C : Cx p l s m args meth c D AC e0 mi A n_Wy_nextNumber b_Wy_nextNumber 1 (some .int)) (x0 : Nat) (w : Wd) (hq : wp_Wy_nextNumber e0 mi x0 w Q) : ∀ (H : Heap) (locs : List Loc) (cells slots : Nat) (ls : Array Slot), HW D cls8 FTc AC A s.heap H locs w → lv_has ls 1 [(0, va_rf (some x0))] → cells ≤ mc → slots ≤ ms → W p l e { frames := 0, cells := mc, slots := ms, locals := 0 } s m args below meth c H locs cells slots (vx_MQ below (QQ D AC A (fun v w9 => ∃ r9 : Int32, v = some (.int r9) ∧ Q r9 w9)) (XX D AC A (fun _ _ => False)) args s mc ms A) (F0 m 0 ls []) := by
  obtain ⟨hl0, hx, hb, hr, ht, hown, hlocks, hnm, hml, hex, hK, hA, hZ, hV⟩ := id C
  intro H locs cells slots ls hW hl hc hs
  unfold wp_Wy_nextNumber at hq
  refine bw_aload_n hx hb d_Wy_nextNumber_0 rfl (lv_at hl 0 rfl) ?_
  obtain ⟨t1, hq⟩ := hq
  refine bw_getR hx hb ht in_Wy hown hK hW rfl t1 (by decide) rfl 0 (by decide) rfl (ht _ m_223) (fun _ h => h) d_Wy_nextNumber_1 ?_
  refine bw_ifnonnull (tgt := 11) hx hb d_Wy_nextNumber_4 (by decide) (fun c2 => ?_) (fun c2 => ?_)
  · have hq := hq.1 c2
    refine bw_aload_n hx hb d_Wy_nextNumber_11 rfl (lv_at hl 0 rfl) ?_
    refine bw_getR hx hb ht in_Wy hown hK hW rfl t1 (by decide) rfl 0 (by decide) rfl (ht _ m_223) (fun _ h => h) d_Wy_nextNumber_12 ?_
    obtain ⟨a3, ea3, hq⟩ := hq
    obtain ⟨t4, hq⟩ := hq
    refine bw_getI hx hb ht in_Bt hown hK hW ea3 t4 (by decide) rfl 0 (by decide) rfl (ht _ m_237) (fun _ h => h) d_Wy_nextNumber_15 ?_
    exact k_Wy_nextNumber_18 C  _ _ _ hq _ _ _ _ _ hW (lv_sub hl [0] rfl) hc hs
  · have hq := hq.2 c2
    refine lv_iconst (v := (-1)) hx hb d_Wy_nextNumber_7 (by decide) ?_
    refine lv_goto (tgt := 18) hx hb d_Wy_nextNumber_8 (by decide) ?_
    exact k_Wy_nextNumber_18 C  _ _ _ hq _ _ _ _ _ hW (lv_sub hl [0] rfl) hc hs
theorem ci_Wy_nextNumber : CI n_Wy_nextNumber b_Wy_nextNumber 1 (some .int) 0 := ⟨m_704, m_12, by decide, by decide, by decide +kernel⟩
theorem c_Wy_nextNumber {l : Launch} {D : va_G} {AC : Nat → ClassId} {e0 mi : Nat} {Q : Int32 → Wd → Prop} (hl0 : l.stackTraces = false) (x0 : Nat) (w : Wd) (hq : wp_Wy_nextNumber e0 mi x0 w Q) : Ct l D AC e0 mi n_Wy_nextNumber (wy n_Wy_nextNumber b_Wy_nextNumber 1 (some .int)) 0 0 [va_rf (some x0)] w 0 0 (fun v w9 => ∃ r9 : Int32, v = some (.int r9) ∧ Q r9 w9) (fun _ _ => False) :=
  Ct.of hl0 (by decide) (by simp [lg_sl, bw_cat, cat_i, cat_j]) (fun p e s m args below meth c A ls C hW hl => k_Wy_nextNumber_0 C x0 w hq s.heap [] 0 0 ls hW (by simpa [lv_args, bw_cat, cat_i, cat_j] using hl) (Nat.le_refl _) (Nat.le_refl _))
def wp_Wy_leadTo (e0 mi : Nat) (x0 : Nat) (x1 : Option Nat) (x2 : Int32) (w : Wd) (Q : Wd → Prop) : Prop :=
  bw_is w x0 4 ∧ (Q (sI (sI (sR w x0 0 x1) x0 1 x2) x0 2 (0 : Int32)))
set_option maxHeartbeats 4000000 in
set_option maxRecDepth 100000 in
theorem k_Wy_leadTo_0 {p : Program} {l : Launch} {e : Env} {s : State} {m : MethodId} {args : Array Value} {below : List Frame} {meth : Method} {c : Code} {D : va_G} {AC : Nat → ClassId} {e0 mi : Nat} {A : Nat → Prop} {mc ms : Nat} {Q : Wd → Prop} (C : Cx p l s m args meth c D AC e0 mi A n_Wy_leadTo b_Wy_leadTo 3 none) (x0 : Nat) (x1 : Option Nat) (x2 : Int32) (w : Wd) (hq : wp_Wy_leadTo e0 mi x0 x1 x2 w Q) : ∀ (H : Heap) (locs : List Loc) (cells slots : Nat) (ls : Array Slot), HW D cls8 FTc AC A s.heap H locs w → lv_has ls 3 [(0, va_rf (some x0)), (1, va_rf x1), (2, .int x2)] → cells ≤ mc → slots ≤ ms → W p l e { frames := 0, cells := mc, slots := ms, locals := 0 } s m args below meth c H locs cells slots (vx_MQ below (QQ D AC A (fun v w9 => v = none ∧ Q w9)) (XX D AC A (fun _ _ => False)) args s mc ms A) (F0 m 0 ls []) := by
  obtain ⟨hl0, hx, hb, hr, ht, hown, hlocks, hnm, hml, hex, hK, hA, hZ, hV⟩ := id C
  intro H locs cells slots ls hW hl hc hs
  unfold wp_Wy_leadTo at hq
  refine bw_aload_n hx hb d_Wy_leadTo_0 rfl (lv_at hl 0 rfl) ?_
  refine bw_aload_n hx hb d_Wy_leadTo_1 rfl (lv_at hl 1 rfl) ?_
  obtain ⟨t1, hq⟩ := hq
  refine bw_putR hx hb ht in_Wy y_Wy yk_Wy nm_Wy hown hK hW rfl t1 (by decide) rfl 0 (by decide) rfl (ht _ m_223) (fun _ h => h) (Or.inl rfl) (bw_nr _ _) (bw_fr _ _) d_Wy_leadTo_2 (fun H locs hW => ?_)
  refine bw_aload_n hx hb d_Wy_leadTo_5 rfl (lv_at hl 0 rfl) ?_
  refine lv_iload_n hx hb d_Wy_leadTo_6 rfl (lv_at hl 2 rfl) ?_
  refine bw_putI hx hb ht in_Wy y_Wy yk_Wy nm_Wy hown hK hW rfl t1 (by decide) rfl 1 (by decide) rfl (ht _ m_226) (fun _ h => h) (Or.inl rfl) rfl rfl d_Wy_leadTo_7 (fun H locs hW => ?_)
  refine bw_aload_n hx hb d_Wy_leadTo_10 rfl (lv_at hl 0 rfl) ?_
  refine lv_iconst (v := 0) hx hb d_Wy_leadTo_11 (by decide) ?_
  refine bw_putI hx hb ht in_Wy y_Wy yk_Wy nm_Wy hown hK hW rfl t1 (by decide) rfl 2 (by decide) rfl (ht _ m_227) (fun _ h => h) (Or.inl rfl) rfl rfl d_Wy_leadTo_12 (fun H locs hW => ?_)
  exact bw_vret C hW ⟨rfl, hq⟩ d_Wy_leadTo_15 hc hs
theorem ci_Wy_leadTo : CI n_Wy_leadTo b_Wy_leadTo 3 none 2 := ⟨m_370, m_12, by decide, by decide, by decide +kernel⟩
theorem c_Wy_leadTo {l : Launch} {D : va_G} {AC : Nat → ClassId} {e0 mi : Nat} {Q : Wd → Prop} (hl0 : l.stackTraces = false) (x0 : Nat) (x1 : Option Nat) (x2 : Int32) (w : Wd) (hq : wp_Wy_leadTo e0 mi x0 x1 x2 w Q) : Ct l D AC e0 mi n_Wy_leadTo (wy n_Wy_leadTo b_Wy_leadTo 3 none) 0 0 [va_rf (some x0), va_rf x1, .int x2] w 0 0 (fun v w9 => v = none ∧ Q w9) (fun _ _ => False) :=
  Ct.of hl0 (by decide) (by simp [lg_sl, bw_cat, cat_i, cat_j]) (fun p e s m args below meth c A ls C hW hl => k_Wy_leadTo_0 C x0 x1 x2 w hq s.heap [] 0 0 ls hW (by simpa [lv_args, bw_cat, cat_i, cat_j] using hl) (Nat.le_refl _) (Nat.le_refl _))
def wb_Wy_isDueBefore_26 (e0 mi : Nat) (Q : Int32 → Wd → Prop) (x0 : Nat) (x1 : Option Nat) (z0 : Int32) (w : Wd) : Prop :=
  bw_b z0 ∧ Q z0 w
set_option maxHeartbeats 4000000 in
set_option maxRecDepth 100000 in
theorem k_Wy_isDueBefore_26 {p : Program} {l : Launch} {e : Env} {s : State} {m : MethodId} {args : Array Value} {below : List Frame} {meth : Method} {c : Code} {D : va_G} {AC : Nat → ClassId} {e0 mi : Nat} {A : Nat → Prop} {mc ms : Nat} {Q : Int32 → Wd → Prop} (C : Cx p l s m args meth c D AC e0 mi A n_Wy_isDueBefore b_Wy_isDueBefore 2 (some .boolean)) (x0 : Nat) (x1 : Option Nat) (z0 : Int32) (w : Wd) (hq : wb_Wy_isDueBefore_26 e0 mi Q x0 x1 z0 w) : ∀ (H : Heap) (locs : List Loc) (cells slots : Nat) (ls : Array Slot), HW D cls8 FTc AC A s.heap H locs w → lv_has ls 2 [(0, va_rf (some x0)), (1, va_rf x1)] → cells ≤ mc → slots ≤ ms → W p l e { frames := 0, cells := mc, slots := ms, locals := 0 } s m args below meth c H locs cells slots (vx_MQ below (QQ D AC A (fun v w9 => ∃ r9 : Int32, v = some (.int r9) ∧ Q r9 w9)) (XX D AC A (fun _ _ => False)) args s mc ms A) (F0 m 26 ls [.int z0]) := by
  obtain ⟨hl0, hx, hb, hr, ht, hown, hlocks, hnm, hml, hex, hK, hA, hZ, hV⟩ := id C
  intro H locs cells slots ls hW hl hc hs
  unfold wb_Wy_isDueBefore_26 at hq
  obtain ⟨h1, hq⟩ := hq
  exact bw_zret C hW (bw_bn h1) ⟨_, rfl, hq⟩ d_Wy_isDueBefore_26 hc hs
def wp_Wy_isDueBefore (e0 mi : Nat) (x0 : Nat) (x1 : Option Nat) (w : Wd) (Q : Int32 → Wd → Prop) : Prop :=
  bw_is w x0 4 ∧ (∃ a2 : Nat, x1 = some a2 ∧ (bw_is w a2 4 ∧ ((((wI w a2 2) * (wI w x0 1)) ≤ ((wI w x0 2) * (wI w a2 1)) → (wb_Wy_isDueBefore_26 e0 mi Q x0 x1 (0 : Int32) w)) ∧ (¬ ((wI w a2 2) * (wI w x0 1)) ≤ ((wI w x0 2) * (wI w a2 1)) → (wb_Wy_isDueBefore_26 e0 mi Q x0 x1 (1 : Int32) w)))))
set_option maxHeartbeats 4000000 in
set_option maxRecDepth 100000 in
theorem k_Wy_isDueBefore_0 {p : Program} {l : Launch} {e : Env} {s : State} {m : MethodId} {args : Array Value} {below : List Frame} {meth : Method} {c : Code} {D : va_G} {AC : Nat → ClassId} {e0 mi : Nat} {A : Nat → Prop} {mc ms : Nat} {Q : Int32 → Wd → Prop} (C : Cx p l s m args meth c D AC e0 mi A n_Wy_isDueBefore b_Wy_isDueBefore 2 (some .boolean)) (x0 : Nat) (x1 : Option Nat) (w : Wd) (hq : wp_Wy_isDueBefore e0 mi x0 x1 w Q) : ∀ (H : Heap) (locs : List Loc) (cells slots : Nat) (ls : Array Slot), HW D cls8 FTc AC A s.heap H locs w → lv_has ls 2 [(0, va_rf (some x0)), (1, va_rf x1)] → cells ≤ mc → slots ≤ ms → W p l e { frames := 0, cells := mc, slots := ms, locals := 0 } s m args below meth c H locs cells slots (vx_MQ below (QQ D AC A (fun v w9 => ∃ r9 : Int32, v = some (.int r9) ∧ Q r9 w9)) (XX D AC A (fun _ _ => False)) args s mc ms A) (F0 m 0 ls []) := by
  obtain ⟨hl0, hx, hb, hr, ht, hown, hlocks, hnm, hml, hex, hK, hA, hZ, hV⟩ := id C
  intro H locs cells slots ls hW hl hc hs
  unfold wp_Wy_isDueBefore at hq
  refine bw_aload_n hx hb d_Wy_isDueBefore_0 rfl (lv_at hl 0 rfl) ?_
  obtain ⟨t1, hq⟩ := hq
  refine bw_getI hx hb ht in_Wy hown hK hW rfl t1 (by decide) rfl 2 (by decide) rfl (ht _ m_227) (fun _ h => h) d_Wy_isDueBefore_1 ?_
  refine bw_aload_n hx hb d_Wy_isDueBefore_4 rfl (lv_at hl 1 rfl) ?_
  obtain ⟨a2, ea2, hq⟩ := hq
  obtain ⟨t3, hq⟩ := hq
  refine bw_getI hx hb ht in_Wy hown hK hW ea2 t3 (by decide) rfl 1 (by decide) rfl (ht _ m_226) (fun _ h => h) d_Wy_isDueBefore_5 ?_
  refine lv_imul hx hb d_Wy_isDueBefore_8 ?_
  refine bw_aload_n hx hb d_Wy_isDueBefore_9 rfl (lv_at hl 1 rfl) ?_
  refine bw_getI hx hb ht in_Wy hown hK hW ea2 t3 (by decide) rfl 2 (by decide) rfl (ht _ m_227) (fun _ h => h) d_Wy_isDueBefore_10 ?_
  refine bw_aload_n hx hb d_Wy_isDueBefore_13 rfl (lv_at hl 0 rfl) ?_
  refine bw_getI hx hb ht in_Wy hown hK hW rfl t1 (by decide) rfl 1 (by decide) rfl (ht _ m_226) (fun _ h => h) d_Wy_isDueBefore_14 ?_
  refine lv_imul hx hb d_Wy_isDueBefore_17 ?_
  refine lv_icmp_ge (tgt := 25) hx hb d_Wy_isDueBefore_18 (by decide) (fun c4 => ?_) (fun c4 => ?_)
  · have hq := hq.1 c4
    refine lv_iconst (v := 0) hx hb d_Wy_isDueBefore_25 (by decide) ?_
    exact k_Wy_isDueBefore_26 C  _ _ _ _ hq _ _ _ _ _ hW (lv_sub hl [0, 1] rfl) hc hs
  · have hq := hq.2 c4
    refine lv_iconst (v := 1) hx hb d_Wy_isDueBefore_21 (by decide) ?_
    refine lv_goto (tgt := 26) hx hb d_Wy_isDueBefore_22 (by decide) ?_
    exact k_Wy_isDueBefore_26 C  _ _ _ _ hq _ _ _ _ _ hW (lv_sub hl [0, 1] rfl) hc hs
theorem ci_Wy_isDueBefore : CI n_Wy_isDueBefore b_Wy_isDueBefore 2 (some .boolean) 1 := ⟨m_628, m_12, by decide, by decide, by decide +kernel⟩
theorem c_Wy_isDueBefore {l : Launch} {D : va_G} {AC : Nat → ClassId} {e0 mi : Nat} {Q : Int32 → Wd → Prop} (hl0 : l.stackTraces = false) (x0 : Nat) (x1 : Option Nat) (w : Wd) (hq : wp_Wy_isDueBefore e0 mi x0 x1 w Q) : Ct l D AC e0 mi n_Wy_isDueBefore (wy n_Wy_isDueBefore b_Wy_isDueBefore 2 (some .boolean)) 0 0 [va_rf (some x0), va_rf x1] w 0 0 (fun v w9 => ∃ r9 : Int32, v = some (.int r9) ∧ Q r9 w9) (fun _ _ => False) :=
  Ct.of hl0 (by decide) (by simp [lg_sl, bw_cat, cat_i, cat_j]) (fun p e s m args below meth c A ls C hW hl => k_Wy_isDueBefore_0 C x0 x1 w hq s.heap [] 0 0 ls hW (by simpa [lv_args, bw_cat, cat_i, cat_j] using hl) (Nat.le_refl _) (Nat.le_refl _))
def wp_Ed_init (e0 mi : Nat) (x0 : Nat) (x1 : Int32) (x2 : Int32) (x3 : Int32) (x4 : Int32) (w : Wd) (Q : Wd → Prop) : Prop :=
  bw_is w x0 1 ∧ (Q (sI (sI (sI (sI w x0 0 x1) x0 1 x2) x0 2 x3) x0 3 x4))
set_option maxHeartbeats 4000000 in
set_option maxRecDepth 100000 in
theorem k_Ed_init_0 {p : Program} {l : Launch} {e : Env} {s : State} {m : MethodId} {args : Array Value} {below : List Frame} {meth : Method} {c : Code} {D : va_G} {AC : Nat → ClassId} {e0 mi : Nat} {A : Nat → Prop} {mc ms : Nat} {Q : Wd → Prop} (C : Cx p l s m args meth c D AC e0 mi A n_Ed_init b_Ed_init 5 none) (x0 : Nat) (x1 : Int32) (x2 : Int32) (x3 : Int32) (x4 : Int32) (w : Wd) (hq : wp_Ed_init e0 mi x0 x1 x2 x3 x4 w Q) : ∀ (H : Heap) (locs : List Loc) (cells slots : Nat) (ls : Array Slot), HW D cls8 FTc AC A s.heap H locs w → lv_has ls 5 [(0, va_rf (some x0)), (1, .int x1), (2, .int x2), (3, .int x3), (4, .int x4)] → cells ≤ mc → slots ≤ ms → W p l e { frames := 1, cells := mc, slots := ms, locals := 40 } s m args below meth c H locs cells slots (vx_MQ below (QQ D AC A (fun v w9 => v = none ∧ Q w9)) (XX D AC A (fun _ _ => False)) args s mc ms A) (F0 m 0 ls []) := by
  obtain ⟨hl0, hx, hb, hr, ht, hown, hlocks, hnm, hml, hex, hK, hA, hZ, hV⟩ := id C
  intro H locs cells slots ls hW hl hc hs
  unfold wp_Ed_init at hq
  refine bw_aload_n hx hb d_Ed_init_0 rfl (lv_at hl 0 rfl) ?_
  refine W.objInit hx hb hown (ht _ m_593) (ht _ m_31) (ht _ m_32) rfl (by rw [hml]; exact hl.1) rfl d_Ed_init_1 (Nat.le_of_ble_eq_true rfl) (Nat.le_of_ble_eq_true rfl) ?_
  refine W.eq (g2 := F0 m 4 ls []) rfl ?_
  refine bw_aload_n hx hb d_Ed_init_4 rfl (lv_at hl 0 rfl) ?_
  refine lv_iload_n hx hb d_Ed_init_5 rfl (lv_at hl 1 rfl) ?_
  obtain ⟨t1, hq⟩ := hq
  refine bw_putI hx hb ht in_Ed y_Ed yk_Ed nm_Ed hown hK hW rfl t1 (by decide) rfl 0 (by decide) rfl (ht _ m_594) (fun _ h => h) (Or.inr ⟨rfl, hnm, rfl⟩) rfl rfl d_Ed_init_6 (fun H locs hW => ?_)
  refine bw_aload_n hx hb d_Ed_init_9 rfl (lv_at hl 0 rfl) ?_
  refine lv_iload_n hx hb d_Ed_init_10 rfl (lv_at hl 2 rfl) ?_
  refine bw_putI hx hb ht in_Ed y_Ed yk_Ed nm_Ed hown hK hW rfl t1 (by decide) rfl 1 (by decide) rfl (ht _ m_596) (fun _ h => h) (Or.inr ⟨rfl, hnm, rfl⟩) rfl rfl d_Ed_init_11 (fun H locs hW => ?_)
  refine bw_aload_n hx hb d_Ed_init_14 rfl (lv_at hl 0 rfl) ?_
  refine lv_iload_n hx hb d_Ed_init_15 rfl (lv_at hl 3 rfl) ?_
  refine bw_putI hx hb ht in_Ed y_Ed yk_Ed nm_Ed hown hK hW rfl t1 (by decide) rfl 2 (by decide) rfl (ht _ m_598) (fun _ h => h) (Or.inr ⟨rfl, hnm, rfl⟩) rfl rfl d_Ed_init_16 (fun H locs hW => ?_)
  refine bw_aload_n hx hb d_Ed_init_19 rfl (lv_at hl 0 rfl) ?_
  refine lv_iload hx hb d_Ed_init_20 (lv_at hl 4 rfl) ?_
  refine bw_putI hx hb ht in_Ed y_Ed yk_Ed nm_Ed hown hK hW rfl t1 (by decide) rfl 3 (by decide) rfl (ht _ m_600) (fun _ h => h) (Or.inr ⟨rfl, hnm, rfl⟩) rfl rfl d_Ed_init_22 (fun H locs hW => ?_)
  exact bw_vret C hW ⟨rfl, hq⟩ d_Ed_init_25 hc hs
theorem ci_Ed_init : CI n_Ed_init b_Ed_init 5 none 4 := ⟨m_592, m_23, by decide, by decide, by decide +kernel⟩
theorem c_Ed_init {l : Launch} {D : va_G} {AC : Nat → ClassId} {e0 mi : Nat} {Q : Wd → Prop} (hl0 : l.stackTraces = false) (x0 : Nat) (x1 : Int32) (x2 : Int32) (x3 : Int32) (x4 : Int32) (w : Wd) (hq : wp_Ed_init e0 mi x0 x1 x2 x3 x4 w Q) : Ct l D AC e0 mi n_Ed_init (wy n_Ed_init b_Ed_init 5 none) 1 40 [va_rf (some x0), .int x1, .int x2, .int x3, .int x4] w 0 0 (fun v w9 => v = none ∧ Q w9) (fun _ _ => False) :=
  Ct.of hl0 (by decide) (by simp [lg_sl, bw_cat, cat_i, cat_j]) (fun p e s m args below meth c A ls C hW hl => k_Ed_init_0 C x0 x1 x2 x3 x4 w hq s.heap [] 0 0 ls hW (by simpa [lv_args, bw_cat, cat_i, cat_j] using hl) (Nat.le_refl _) (Nat.le_refl _))
def wp_Sc_init (e0 mi : Nat) (x0 : Nat) (x1 : Int32) (x2 : Option Nat) (x3 : Int32) (x4 : Int32) (w : Wd) (Q : Wd → Prop) : Prop :=
  bw_is w x0 3 ∧ (Q (sI (sI (sR (sI w x0 0 x1) x0 1 x2) x0 2 x3) x0 3 x4))
set_option maxHeartbeats 4000000 in
set_option maxRecDepth 100000 in
theorem k_Sc_init_0 {p : Program} {l : Launch} {e : Env} {s : State} {m : MethodId} {args : Array Value} {below : List Frame} {meth : Method} {c : Code} {D : va_G} {AC : Nat → ClassId} {e0 mi : Nat} {A : Nat → Prop} {mc ms : Nat} {Q : Wd → Prop} (C : Cx p l s m args meth c D AC e0 mi A n_Sc_init b_Sc_init 5 none) (x0 : Nat) (x1 : Int32) (x2 : Option Nat) (x3 : Int32) (x4 : Int32) (w : Wd) (hq : wp_Sc_init e0 mi x0 x1 x2 x3 x4 w Q) : ∀ (H : Heap) (locs : List Loc) (cells slots : Nat) (ls : Array Slot), HW D cls8 FTc AC A s.heap H locs w → lv_has ls 5 [(0, va_rf (some x0)), (1, .int x1), (2, va_rf x2), (3, .int x3), (4, .int x4)] → cells ≤ mc → slots ≤ ms → W p l e { frames := 1, cells := mc, slots := ms, locals := 40 } s m args below meth c H locs cells slots (vx_MQ below (QQ D AC A (fun v w9 => v = none ∧ Q w9)) (XX D AC A (fun _ _ => False)) args s mc ms A) (F0 m 0 ls []) := by
  obtain ⟨hl0, hx, hb, hr, ht, hown, hlocks, hnm, hml, hex, hK, hA, hZ, hV⟩ := id C
  intro H locs cells slots ls hW hl hc hs
  unfold wp_Sc_init at hq
  refine bw_aload_n hx hb d_Sc_init_0 rfl (lv_at hl 0 rfl) ?_
  refine W.objInit hx hb hown (ht _ m_402) (ht _ m_31) (ht _ m_32) rfl (by rw [hml]; exact hl.1) rfl d_Sc_init_1 (Nat.le_of_ble_eq_true rfl) (Nat.le_of_ble_eq_true rfl) ?_
  refine W.eq (g2 := F0 m 4 ls []) rfl ?_
  refine bw_aload_n hx hb d_Sc_init_4 rfl (lv_at hl 0 rfl) ?_
  refine lv_iload_n hx hb d_Sc_init_5 rfl (lv_at hl 1 rfl) ?_
  obtain ⟨t1, hq⟩ := hq
  refine bw_putI hx hb ht in_Sc y_Sc yk_Sc nm_Sc hown hK hW rfl t1 (by decide) rfl 0 (by decide) rfl (ht _ m_403) (fun _ h => h) (Or.inr ⟨rfl, hnm, rfl⟩) rfl rfl d_Sc_init_6 (fun H locs hW => ?_)
  refine bw_aload_n hx hb d_Sc_init_9 rfl (lv_at hl 0 rfl) ?_
  refine bw_aload_n hx hb d_Sc_init_10 rfl (lv_at hl 2 rfl) ?_
  refine bw_putR hx hb ht in_Sc y_Sc yk_Sc nm_Sc hown hK hW rfl t1 (by decide) rfl 1 (by decide) rfl (ht _ m_405) (fun _ h => h) (Or.inr ⟨rfl, hnm, rfl⟩) (bw_nr _ _) (bw_fr _ _) d_Sc_init_11 (fun H locs hW => ?_)
  refine bw_aload_n hx hb d_Sc_init_14 rfl (lv_at hl 0 rfl) ?_
  refine lv_iload_n hx hb d_Sc_init_15 rfl (lv_at hl 3 rfl) ?_
  refine bw_putI hx hb ht in_Sc y_Sc yk_Sc nm_Sc hown hK hW rfl t1 (by decide) rfl 2 (by decide) rfl (ht _ m_407) (fun _ h => h) (Or.inr ⟨rfl, hnm, rfl⟩) rfl rfl d_Sc_init_16 (fun H locs hW => ?_)
  refine bw_aload_n hx hb d_Sc_init_19 rfl (lv_at hl 0 rfl) ?_
  refine lv_iload hx hb d_Sc_init_20 (lv_at hl 4 rfl) ?_
  refine bw_putI hx hb ht in_Sc y_Sc yk_Sc nm_Sc hown hK hW rfl t1 (by decide) rfl 3 (by decide) rfl (ht _ m_409) (fun _ h => h) (Or.inr ⟨rfl, hnm, rfl⟩) rfl rfl d_Sc_init_22 (fun H locs hW => ?_)
  exact bw_vret C hW ⟨rfl, hq⟩ d_Sc_init_25 hc hs
theorem ci_Sc_init : CI n_Sc_init b_Sc_init 5 none 4 := ⟨m_401, m_20, by decide, by decide, by decide +kernel⟩
theorem c_Sc_init {l : Launch} {D : va_G} {AC : Nat → ClassId} {e0 mi : Nat} {Q : Wd → Prop} (hl0 : l.stackTraces = false) (x0 : Nat) (x1 : Int32) (x2 : Option Nat) (x3 : Int32) (x4 : Int32) (w : Wd) (hq : wp_Sc_init e0 mi x0 x1 x2 x3 x4 w Q) : Ct l D AC e0 mi n_Sc_init (wy n_Sc_init b_Sc_init 5 none) 1 40 [va_rf (some x0), .int x1, va_rf x2, .int x3, .int x4] w 0 0 (fun v w9 => v = none ∧ Q w9) (fun _ _ => False) :=
  Ct.of hl0 (by decide) (by simp [lg_sl, bw_cat, cat_i, cat_j]) (fun p e s m args below meth c A ls C hW hl => k_Sc_init_0 C x0 x1 x2 x3 x4 w hq s.heap [] 0 0 ls hW (by simpa [lv_args, bw_cat, cat_i, cat_j] using hl) (Nat.le_refl _) (Nat.le_refl _))
def wp_It_init (e0 mi : Nat) (x0 : Nat) (x1 : Int32) (x2 : Int32) (x3 : Int32) (w : Wd) (Q : Wd → Prop) : Prop :=
  bw_is w x0 2 ∧ (Q (sI (sI (sI (sI (sI (sR (sR (sR (sI (sI (sI w x0 0 x1) x0 1 x2) x0 2 x3) x0 3 none) x0 4 none) x0 5 none) x0 6 (0 : Int32)) x0 7 (0 : Int32)) x0 8 (0 : Int32)) x0 9 (0 : Int32)) x0 10 (0 : Int32)))
set_option maxHeartbeats 4000000 in
set_option maxRecDepth 100000 in
theorem k_It_init_0 {p : Program} {l : Launch} {e : Env} {s : State} {m : MethodId} {args : Array Value} {below : List Frame} {meth : Method} {c : Code} {D : va_G} {AC : Nat → ClassId} {e0 mi : Nat} {A : Nat → Prop} {mc ms : Nat} {Q : Wd → Prop} (C : Cx p l s m args meth c D AC e0 mi A n_It_init b_It_init 4 none) (x0 : Nat) (x1 : Int32) (x2 : Int32) (x3 : Int32) (w : Wd) (hq : wp_It_init e0 mi x0 x1 x2 x3 w Q) : ∀ (H : Heap) (locs : List Loc) (cells slots : Nat) (ls : Array Slot), HW D cls8 FTc AC A s.heap H locs w → lv_has ls 4 [(0, va_rf (some x0)), (1, .int x1), (2, .int x2), (3, .int x3)] → cells ≤ mc → slots ≤ ms → W p l e { frames := 1, cells := mc, slots := ms, locals := 40 } s m args below meth c H locs cells slots (vx_MQ below (QQ D AC A (fun v w9 => v = none ∧ Q w9)) (XX D AC A (fun _ _ => False)) args s mc ms A) (F0 m 0 ls []) := by
  obtain ⟨hl0, hx, hb, hr, ht, hown, hlocks, hnm, hml, hex, hK, hA, hZ, hV⟩ := id C
  intro H locs cells slots ls hW hl hc hs
  unfold wp_It_init at hq
  refine bw_aload_n hx hb d_It_init_0 rfl (lv_at hl 0 rfl) ?_
  refine W.objInit hx hb hown (ht _ m_442) (ht _ m_31) (ht _ m_32) rfl (by rw [hml]; exact hl.1) rfl d_It_init_1 (Nat.le_of_ble_eq_true rfl) (Nat.le_of_ble_eq_true rfl) ?_
  refine W.eq (g2 := F0 m 4 ls []) rfl ?_
  refine bw_aload_n hx hb d_It_init_4 rfl (lv_at hl 0 rfl) ?_
  refine lv_iload_n hx hb d_It_init_5 rfl (lv_at hl 1 rfl) ?_
  obtain ⟨t1, hq⟩ := hq
  refine bw_putI hx hb ht in_It y_It yk_It nm_It hown hK hW rfl t1 (by decide) rfl 0 (by decide) rfl (ht _ m_443) (fun _ h => h) (Or.inr ⟨rfl, hnm, rfl⟩) rfl rfl d_It_init_6 (fun H locs hW => ?_)
  refine bw_aload_n hx hb d_It_init_9 rfl (lv_at hl 0 rfl) ?_
  refine lv_iload_n hx hb d_It_init_10 rfl (lv_at hl 2 rfl) ?_
  refine bw_putI hx hb ht in_It y_It yk_It nm_It hown hK hW rfl t1 (by decide) rfl 1 (by decide) rfl (ht _ m_445) (fun _ h => h) (Or.inr ⟨rfl, hnm, rfl⟩) rfl rfl d_It_init_11 (fun H locs hW => ?_)
  refine bw_aload_n hx hb d_It_init_14 rfl (lv_at hl 0 rfl) ?_
  refine lv_iload_n hx hb d_It_init_15 rfl (lv_at hl 3 rfl) ?_
  refine bw_putI hx hb ht in_It y_It yk_It nm_It hown hK hW rfl t1 (by decide) rfl 2 (by decide) rfl (ht _ m_447) (fun _ h => h) (Or.inr ⟨rfl, hnm, rfl⟩) rfl rfl d_It_init_16 (fun H locs hW => ?_)
  refine bw_aload_n hx hb d_It_init_19 rfl (lv_at hl 0 rfl) ?_
  refine bw_null hx hb d_It_init_20 ?_
  refine bw_putR hx hb ht in_It y_It yk_It nm_It hown hK hW rfl t1 (by decide) rfl 3 (by decide) rfl (ht _ m_449) (fun _ h => h) (Or.inl rfl) (bw_nr _ _) (bw_fr _ _) d_It_init_21 (fun H locs hW => ?_)
  refine bw_aload_n hx hb d_It_init_24 rfl (lv_at hl 0 rfl) ?_
  refine bw_null hx hb d_It_init_25 ?_
  refine bw_putR hx hb ht in_It y_It yk_It nm_It hown hK hW rfl t1 (by decide) rfl 4 (by decide) rfl (ht _ m_451) (fun _ h => h) (Or.inl rfl) (bw_nr _ _) (bw_fr _ _) d_It_init_26 (fun H locs hW => ?_)
  refine bw_aload_n hx hb d_It_init_29 rfl (lv_at hl 0 rfl) ?_
  refine bw_null hx hb d_It_init_30 ?_
  refine bw_putR hx hb ht in_It y_It yk_It nm_It hown hK hW rfl t1 (by decide) rfl 5 (by decide) rfl (ht _ m_453) (fun _ h => h) (Or.inl rfl) (bw_nr _ _) (bw_fr _ _) d_It_init_31 (fun H locs hW => ?_)
  refine bw_aload_n hx hb d_It_init_34 rfl (lv_at hl 0 rfl) ?_
  refine lv_iconst (v := 0) hx hb d_It_init_35 (by decide) ?_
  refine bw_putI hx hb ht in_It y_It yk_It nm_It hown hK hW rfl t1 (by decide) rfl 6 (by decide) rfl (ht _ m_456) (fun _ h => h) (Or.inl rfl) rfl rfl d_It_init_36 (fun H locs hW => ?_)
  refine bw_aload_n hx hb d_It_init_39 rfl (lv_at hl 0 rfl) ?_
  refine lv_iconst (v := 0) hx hb d_It_init_40 (by decide) ?_
  refine bw_putI hx hb ht in_It y_It yk_It nm_It hown hK hW rfl t1 (by decide) rfl 7 (by decide) rfl (ht _ m_458) (fun _ h => h) (Or.inl rfl) rfl rfl d_It_init_41 (fun H locs hW => ?_)
  refine bw_aload_n hx hb d_It_init_44 rfl (lv_at hl 0 rfl) ?_
  refine lv_iconst (v := 0) hx hb d_It_init_45 (by decide) ?_
  refine bw_putI hx hb ht in_It y_It yk_It nm_It hown hK hW rfl t1 (by decide) rfl 8 (by decide) rfl (ht _ m_461) (fun _ h => h) (Or.inl rfl) rfl rfl d_It_init_46 (fun H locs hW => ?_)
  refine bw_aload_n hx hb d_It_init_49 rfl (lv_at hl 0 rfl) ?_
  refine lv_iconst (v := 0) hx hb d_It_init_50 (by decide) ?_
  refine bw_putI hx hb ht in_It y_It yk_It nm_It hown hK hW rfl t1 (by decide) rfl 9 (by decide) rfl (ht _ m_463) (fun _ h => h) (Or.inl rfl) rfl rfl d_It_init_51 (fun H locs hW => ?_)
  refine bw_aload_n hx hb d_It_init_54 rfl (lv_at hl 0 rfl) ?_
  refine lv_iconst (v := 0) hx hb d_It_init_55 (by decide) ?_
  refine bw_putI hx hb ht in_It y_It yk_It nm_It hown hK hW rfl t1 (by decide) rfl 10 (by decide) rfl (ht _ m_466) (fun _ h => h) (Or.inl rfl) rfl rfl d_It_init_56 (fun H locs hW => ?_)
  exact bw_vret C hW ⟨rfl, hq⟩ d_It_init_59 hc hs
theorem ci_It_init : CI n_It_init b_It_init 4 none 3 := ⟨m_441, m_21, by decide, by decide, by decide +kernel⟩
theorem c_It_init {l : Launch} {D : va_G} {AC : Nat → ClassId} {e0 mi : Nat} {Q : Wd → Prop} (hl0 : l.stackTraces = false) (x0 : Nat) (x1 : Int32) (x2 : Int32) (x3 : Int32) (w : Wd) (hq : wp_It_init e0 mi x0 x1 x2 x3 w Q) : Ct l D AC e0 mi n_It_init (wy n_It_init b_It_init 4 none) 1 40 [va_rf (some x0), .int x1, .int x2, .int x3] w 0 0 (fun v w9 => v = none ∧ Q w9) (fun _ _ => False) :=
  Ct.of hl0 (by decide) (by simp [lg_sl, bw_cat, cat_i, cat_j]) (fun p e s m args below meth c A ls C hW hl => k_It_init_0 C x0 x1 x2 x3 w hq s.heap [] 0 0 ls hW (by simpa [lv_args, bw_cat, cat_i, cat_j] using hl) (Nat.le_refl _) (Nat.le_refl _))
def wp_It_startOn (e0 mi : Nat) (x0 : Nat) (x1 : Option Nat) (x2 : Option Nat) (w : Wd) (Q : Wd → Prop) : Prop :=
  bw_is w x0 2 ∧ (wp_It_forgetWay e0 mi x0 (sI (sI (sR (sR (sR w x0 3 x1) x0 4 x2) x0 5 none) x0 7 (0 : Int32)) x0 8 (0 : Int32)) (fun w3 => Q w3))
set_option maxHeartbeats 4000000 in
set_option maxRecDepth 100000 in
theorem k_It_startOn_0 {p : Program} {l : Launch} {e : Env} {s : State} {m : MethodId} {args : Array Value} {below : List Frame} {meth : Method} {c : Code} {D : va_G} {AC : Nat → ClassId} {e0 mi : Nat} {A : Nat → Prop} {mc ms : Nat} {Q : Wd → Prop} (C : Cx p l s m args meth c D AC e0 mi A n_It_startOn b_It_startOn 3 none) (x0 : Nat) (x1 : Option Nat) (x2 : Option Nat) (w : Wd) (hq : wp_It_startOn e0 mi x0 x1 x2 w Q) : ∀ (H : Heap) (locs : List Loc) (cells slots : Nat) (ls : Array Slot), HW D cls8 FTc AC A s.heap H locs w → lv_has ls 3 [(0, va_rf (some x0)), (1, va_rf x1), (2, va_rf x2)] → cells ≤ mc → slots ≤ ms → W p l e { frames := 1, cells := mc, slots := ms, locals := 20 } s m args below meth c H locs cells slots (vx_MQ below (QQ D AC A (fun v w9 => v = none ∧ Q w9)) (XX D AC A (fun _ _ => False)) args s mc ms A) (F0 m 0 ls []) := by
  obtain ⟨hl0, hx, hb, hr, ht, hown, hlocks, hnm, hml, hex, hK, hA, hZ, hV⟩ := id C
  intro H locs cells slots ls hW hl hc hs
  unfold wp_It_startOn at hq
  refine bw_aload_n hx hb d_It_startOn_0 rfl (lv_at hl 0 rfl) ?_
  refine bw_aload_n hx hb d_It_startOn_1 rfl (lv_at hl 1 rfl) ?_
  obtain ⟨t1, hq⟩ := hq
  refine bw_putR hx hb ht in_It y_It yk_It nm_It hown hK hW rfl t1 (by decide) rfl 3 (by decide) rfl (ht _ m_449) (fun _ h => h) (Or.inl rfl) (bw_nr _ _) (bw_fr _ _) d_It_startOn_2 (fun H locs hW => ?_)
  refine bw_aload_n hx hb d_It_startOn_5 rfl (lv_at hl 0 rfl) ?_
  refine bw_aload_n hx hb d_It_startOn_6 rfl (lv_at hl 2 rfl) ?_
  refine bw_putR hx hb ht in_It y_It yk_It nm_It hown hK hW rfl t1 (by decide) rfl 4 (by decide) rfl (ht _ m_451) (fun _ h => h) (Or.inl rfl) (bw_nr _ _) (bw_fr _ _) d_It_startOn_7 (fun H locs hW => ?_)
  refine bw_aload_n hx hb d_It_startOn_10 rfl (lv_at hl 0 rfl) ?_
  refine bw_null hx hb d_It_startOn_11 ?_
  refine bw_putR hx hb ht in_It y_It yk_It nm_It hown hK hW rfl t1 (by decide) rfl 5 (by decide) rfl (ht _ m_453) (fun _ h => h) (Or.inl rfl) (bw_nr _ _) (bw_fr _ _) d_It_startOn_12 (fun H locs hW => ?_)
  refine bw_aload_n hx hb d_It_startOn_15 rfl (lv_at hl 0 rfl) ?_
  refine lv_iconst (v := 0) hx hb d_It_startOn_16 (by decide) ?_
  refine bw_putI hx hb ht in_It y_It yk_It nm_It hown hK hW rfl t1 (by decide) rfl 7 (by decide) rfl (ht _ m_458) (fun _ h => h) (Or.inl rfl) rfl rfl d_It_startOn_17 (fun H locs hW => ?_)
  refine bw_aload_n hx hb d_It_startOn_20 rfl (lv_at hl 0 rfl) ?_
  refine lv_iconst (v := 0) hx hb d_It_startOn_21 (by decide) ?_
  refine bw_putI hx hb ht in_It y_It yk_It nm_It hown hK hW rfl t1 (by decide) rfl 8 (by decide) rfl (ht _ m_461) (fun _ h => h) (Or.inl rfl) rfl rfl d_It_startOn_22 (fun H locs hW => ?_)
  refine bw_aload_n hx hb d_It_startOn_25 rfl (lv_at hl 0 rfl) ?_
  refine bw_callV (As := []) (rest := []) C hW ci_It_forgetWay m_499 m_501 sel_It_forgetWay d_It_startOn_26 rfl t1 (by decide) rfl rfl rfl hl.1 (by decide) ⟨Nat.le_of_ble_eq_true rfl, Nat.le_of_ble_eq_true rfl⟩ ⟨hc, hs⟩ (c_It_forgetWay hl0 _ _ hq) (fun _ _ _ _ _ _ h => h.elim) (fun v2 w3 H locs hv hW => ?_)
  obtain ⟨rfl, hq⟩ := hv
  refine W.eq (g2 := F0 m 29 ls []) rfl ?_
  exact bw_vret C hW ⟨rfl, hq⟩ d_It_startOn_29 hc hs
theorem ci_It_startOn : CI n_It_startOn b_It_startOn 3 none 2 := ⟨m_498, m_21, by decide, by decide, by decide +kernel⟩
theorem c_It_startOn {l : Launch} {D : va_G} {AC : Nat → ClassId} {e0 mi : Nat} {Q : Wd → Prop} (hl0 : l.stackTraces = false) (x0 : Nat) (x1 : Option Nat) (x2 : Option Nat) (w : Wd) (hq : wp_It_startOn e0 mi x0 x1 x2 w Q) : Ct l D AC e0 mi n_It_startOn (wy n_It_startOn b_It_startOn 3 none) 1 20 [va_rf (some x0), va_rf x1, va_rf x2] w 0 0 (fun v w9 => v = none ∧ Q w9) (fun _ _ => False) :=
  Ct.of hl0 (by decide) (by simp [lg_sl, bw_cat, cat_i, cat_j]) (fun p e s m args below meth c A ls C hW hl => k_It_startOn_0 C x0 x1 x2 w hq s.heap [] 0 0 ls hW (by simpa [lv_args, bw_cat, cat_i, cat_j] using hl) (Nat.le_refl _) (Nat.le_refl _))
def wp_Bt_init (e0 mi : Nat) (x0 : Nat) (x1 : Int32) (x2 : Int32) (x3 : Int32) (w : Wd) (nc ns : Nat) (Q : Wd → Prop) : Prop :=
  bw_is w x0 0 ∧ (1 ≤ nc ∧ 3 ≤ ns ∧ ∀ q2 : Nat, q2 ∉ wL (sI (sR (sR (sI (sI (sI (sI w x0 0 x1) x0 1 x2) x0 2 x3) x0 3 (1 : Int32)) x0 4 none) x0 5 none) x0 6 (0 : Int32)) → (wp_Wy_init e0 mi q2 (bw_new (sI (sR (sR (sI (sI (sI (sI w x0 0 x1) x0 1 x2) x0 2 x3) x0 3 (1 : Int32)) x0 4 none) x0 5 none) x0 6 (0 : Int32)) q2 4 0) (fun w8 => bw_is w8 x0 0 ∧ (1 ≤ (nc - 1) ∧ 3 ≤ (ns - 3) ∧ ∀ q15 : Nat, q15 ∉ wL (sR w8 x0 7 (some q2)) → (wp_Wy_init e0 mi q15 (bw_new (sR w8 x0 7 (some q2)) q15 4 0) (fun w21 => bw_is w21 x0 0 ∧ (Q (sR w21 x0 8 (some q15)))))))))
set_option maxHeartbeats 4000000 in
set_option maxRecDepth 100000 in
theorem k_Bt_init_0 {p : Program} {l : Launch} {e : Env} {s : State} {m : MethodId} {args : Array Value} {below : List Frame} {meth : Method} {c : Code} {D : va_G} {AC : Nat → ClassId} {e0 mi : Nat} {A : Nat → Prop} {mc ms : Nat} {Q : Wd → Prop} (C : Cx p l s m args meth c D AC e0 mi A n_Bt_init b_Bt_init 4 none) (x0 : Nat) (x1 : Int32) (x2 : Int32) (x3 : Int32) (w : Wd) (nc ns : Nat) (hq : wp_Bt_init e0 mi x0 x1 x2 x3 w nc ns Q) : ∀ (H : Heap) (locs : List Loc) (cells slots : Nat) (ls : Array Slot), HW D cls8 FTc AC A s.heap H locs w → lv_has ls 4 [(0, va_rf (some x0)), (1, .int x1), (2, .int x2), (3, .int x3)] → cells + nc ≤ mc → slots + ns ≤ ms → W p l e { frames := 2, cells := mc, slots := ms, locals := 60 } s m args below meth c H locs cells slots (vx_MQ below (QQ D AC A (fun v w9 => v = none ∧ Q w9)) (XX D AC A (fun _ _ => False)) args s mc ms A) (F0 m 0 ls []) := by
  obtain ⟨hl0, hx, hb, hr, ht, hown, hlocks, hnm, hml, hex, hK, hA, hZ, hV⟩ := id C
  intro H locs cells slots ls hW hl hc hs
  unfold wp_Bt_init at hq
  refine bw_aload_n hx hb d_Bt_init_0 rfl (lv_at hl 0 rfl) ?_
  refine W.objInit hx hb hown (ht _ m_216) (ht _ m_31) (ht _ m_32) rfl (by rw [hml]; exact hl.1) rfl d_Bt_init_1 (Nat.le_of_ble_eq_true rfl) (Nat.le_of_ble_eq_true rfl) ?_
  refine W.eq (g2 := F0 m 4 ls []) rfl ?_
  refine bw_aload_n hx hb d_Bt_init_4 rfl (lv_at hl 0 rfl) ?_
  refine lv_iload_n hx hb d_Bt_init_5 rfl (lv_at hl 1 rfl) ?_
  obtain ⟨t1, hq⟩ := hq
  refine bw_putI hx hb ht in_Bt y_Bt yk_Bt nm_Bt hown hK hW rfl t1 (by decide) rfl 0 (by decide) rfl (ht _ m_236) (fun _ h => h) (Or.inr ⟨rfl, hnm, rfl⟩) rfl rfl d_Bt_init_6 (fun H locs hW => ?_)
  refine bw_aload_n hx hb d_Bt_init_9 rfl (lv_at hl 0 rfl) ?_
  refine lv_iload_n hx hb d_Bt_init_10 rfl (lv_at hl 2 rfl) ?_
  refine bw_putI hx hb ht in_Bt y_Bt yk_Bt nm_Bt hown hK hW rfl t1 (by decide) rfl 1 (by decide) rfl (ht _ m_239) (fun _ h => h) (Or.inr ⟨rfl, hnm, rfl⟩) rfl rfl d_Bt_init_11 (fun H locs hW => ?_)
  refine bw_aload_n hx hb d_Bt_init_14 rfl (lv_at hl 0 rfl) ?_
  refine lv_iload_n hx hb d_Bt_init_15 rfl (lv_at hl 3 rfl) ?_
  refine bw_putI hx hb ht in_Bt y_Bt yk_Bt nm_Bt hown hK hW rfl t1 (by decide) rfl 2 (by decide) rfl (ht _ m_242) (fun _ h => h) (Or.inl rfl) rfl rfl d_Bt_init_16 (fun H locs hW => ?_)
  refine bw_aload_n hx hb d_Bt_init_19 rfl (lv_at hl 0 rfl) ?_
  refine lv_iconst (v := 1) hx hb d_Bt_init_20 (by decide) ?_
  refine bw_putI hx hb ht in_Bt y_Bt yk_Bt nm_Bt hown hK hW rfl t1 (by decide) rfl 3 (by decide) rfl (ht _ m_245) (fun _ h => h) (Or.inl rfl) rfl rfl d_Bt_init_21 (fun H locs hW => ?_)
  refine bw_aload_n hx hb d_Bt_init_24 rfl (lv_at hl 0 rfl) ?_
  refine bw_null hx hb d_Bt_init_25 ?_
  refine bw_putR hx hb ht in_Bt y_Bt yk_Bt nm_Bt hown hK hW rfl t1 (by decide) rfl 4 (by decide) rfl (ht _ m_247) (fun _ h => h) (Or.inl rfl) (bw_nr _ _) (bw_fr _ _) d_Bt_init_26 (fun H locs hW => ?_)
  refine bw_aload_n hx hb d_Bt_init_29 rfl (lv_at hl 0 rfl) ?_
  refine bw_null hx hb d_Bt_init_30 ?_
  refine bw_putR hx hb ht in_Bt y_Bt yk_Bt nm_Bt hown hK hW rfl t1 (by decide) rfl 5 (by decide) rfl (ht _ m_249) (fun _ h => h) (Or.inl rfl) (bw_nr _ _) (bw_fr _ _) d_Bt_init_31 (fun H locs hW => ?_)
  refine bw_aload_n hx hb d_Bt_init_34 rfl (lv_at hl 0 rfl) ?_
  refine lv_iconst (v := 0) hx hb d_Bt_init_35 (by decide) ?_
  refine bw_putI hx hb ht in_Bt y_Bt yk_Bt nm_Bt hown hK hW rfl t1 (by decide) rfl 6 (by decide) rfl (ht _ m_251) (fun _ h => h) (Or.inl rfl) rfl rfl d_Bt_init_36 (fun H locs hW => ?_)
  refine bw_aload_n hx hb d_Bt_init_39 rfl (lv_at hl 0 rfl) ?_
  obtain ⟨h3, h4, hq⟩ := hq
  refine bw_mk (ci := 4) hx hb ht in_Wy y_Wy yk_Wy hown (ht _ m_217) (ht _ m_218) (ht _ m_12) hK hW hA (by decide) (by rfl) df_Wy (Nat.le_trans (Nat.add_le_add_left h3 _) hc) (Nat.le_trans (Nat.add_le_add_left h4 _) hs) d_Bt_init_40 (fun q2 H n5 hW => ?_)
  have hq := hq q2 n5
  have hc := bw_bud hc h3
  have hs := bw_bud hs h4
  have t1 := bw_is_new (kd := 4) (n := 0) n5 t1
  have t6 : bw_is (bw_new (sI (sR (sR (sI (sI (sI (sI w x0 0 x1) x0 1 x2) x0 2 x3) x0 3 (1 : Int32)) x0 4 none) x0 5 none) x0 6 (0 : Int32)) q2 4 0) q2 4 := bw_is_self _ _ _ _
  refine lv_dup hx hb d_Bt_init_43 (bw_cat _) ?_
  refine bw_callI (As := []) (rest := [va_rf (some q2), va_rf (some x0)]) C hW ci_Wy_init rfl m_219 m_220 d_Bt_init_44 rfl rfl hl.1 (by simp [bw_cat, cat_i, cat_j]) ⟨Nat.le_of_ble_eq_true rfl, Nat.le_of_ble_eq_true rfl⟩ ⟨Nat.le_trans (Nat.add_le_add_left (Nat.zero_le _) _) hc, Nat.le_trans (Nat.add_le_add_left (Nat.zero_le _) _) hs⟩ (c_Wy_init hl0 _ _ hq) (fun v7 w8 H locs hv hW => ?_)
  obtain ⟨rfl, hq⟩ := hv
  have hc := bw_bud0 hc
  have hs := bw_bud0 hs
  refine W.eq (g2 := F0 m 47 ls [va_rf (some q2), va_rf (some x0)]) rfl ?_
  obtain ⟨t14, hq⟩ := hq
  refine bw_putR hx hb ht in_Bt y_Bt yk_Bt nm_Bt hown hK hW rfl t14 (by decide) rfl 7 (by decide) rfl (ht _ m_253) (fun _ h => h) (Or.inr ⟨rfl, hnm, rfl⟩) (bw_nr _ _) (bw_fr _ _) d_Bt_init_47 (fun H locs hW => ?_)
  refine bw_aload_n hx hb d_Bt_init_50 rfl (lv_at hl 0 rfl) ?_
  obtain ⟨h16, h17, hq⟩ := hq
  refine bw_mk (ci := 4) hx hb ht in_Wy y_Wy yk_Wy hown (ht _ m_217) (ht _ m_218) (ht _ m_12) hK hW hA (by decide) (by rfl) df_Wy (Nat.le_trans (Nat.add_le_add_left h16 _) hc) (Nat.le_trans (Nat.add_le_add_left h17 _) hs) d_Bt_init_51 (fun q15 H n18 hW => ?_)
  have hq := hq q15 n18
  have hc := bw_bud hc h16
  have hs := bw_bud hs h17
  have t14 := bw_is_new (kd := 4) (n := 0) n18 t14
  have t19 : bw_is (bw_new (sR w8 x0 7 (some q2)) q15 4 0) q15 4 := bw_is_self _ _ _ _
  refine lv_dup hx hb d_Bt_init_54 (bw_cat _) ?_
  refine bw_callI (As := []) (rest := [va_rf (some q15), va_rf (some x0)]) C hW ci_Wy_init rfl m_219 m_220 d_Bt_init_55 rfl rfl hl.1 (by simp [bw_cat, cat_i, cat_j]) ⟨Nat.le_of_ble_eq_true rfl, Nat.le_of_ble_eq_true rfl⟩ ⟨Nat.le_trans (Nat.add_le_add_left (Nat.zero_le _) _) hc, Nat.le_trans (Nat.add_le_add_left (Nat.zero_le _) _) hs⟩ (c_Wy_init hl0 _ _ hq) (fun v20 w21 H locs hv hW => ?_)
  obtain ⟨rfl, hq⟩ := hv
  have hc := bw_bud0 hc
  have hs := bw_bud0 hs
  refine W.eq (g2 := F0 m 58 ls [va_rf (some q15), va_rf (some x0)]) rfl ?_
  obtain ⟨t27, hq⟩ := hq
  refine bw_putR hx hb ht in_Bt y_Bt yk_Bt nm_Bt hown hK hW rfl t27 (by decide) rfl 8 (by decide) rfl (ht _ m_254) (fun _ h => h) (Or.inr ⟨rfl, hnm, rfl⟩) (bw_nr _ _) (bw_fr _ _) d_Bt_init_58 (fun H locs hW => ?_)
  exact bw_vret C hW ⟨rfl, hq⟩ d_Bt_init_61 (Nat.le_trans (Nat.le_add_right _ _) hc) (Nat.le_trans (Nat.le_add_right _ _) hs)
theorem ci_Bt_init : CI n_Bt_init b_Bt_init 4 none 3 := ⟨m_215, m_11, by decide, by decide, by decide +kernel⟩
theorem c_Bt_init {l : Launch} {D : va_G} {AC : Nat → ClassId} {e0 mi : Nat} {Q : Wd → Prop} (hl0 : l.stackTraces = false) (x0 : Nat) (x1 : Int32) (x2 : Int32) (x3 : Int32) (w : Wd) (nc ns : Nat) (hq : wp_Bt_init e0 mi x0 x1 x2 x3 w nc ns Q) : Ct l D AC e0 mi n_Bt_init (wy n_Bt_init b_Bt_init 4 none) 2 60 [va_rf (some x0), .int x1, .int x2, .int x3] w nc ns (fun v w9 => v = none ∧ Q w9) (fun _ _ => False) :=
  Ct.of hl0 (by decide) (by simp [lg_sl, bw_cat, cat_i, cat_j]) (fun p e s m args below meth c A ls C hW hl => k_Bt_init_0 C x0 x1 x2 x3 w nc ns hq s.heap [] 0 0 ls hW (by simpa [lv_args, bw_cat, cat_i, cat_j] using hl) (Nat.le_of_eq (Nat.zero_add _)) (Nat.le_of_eq (Nat.zero_add _)))
def wb_Bt_wayNumbered_16 (e0 mi : Nat) (Q : Option Nat → Wd → Prop) (x0 : Nat) (x1 : Int32) (z0 : Option Nat) (w : Wd) : Prop :=
  Q z0 w
set_option maxHeartbeats 4000000 in
set_option maxRecDepth 100000 in
theorem k_Bt_wayNumbered_16 {p : Program} {l : Launch} {e : Env} {s : State} {m : MethodId} {args : Array Value} {below : List Frame} {meth : Method} {c : Code} {D : va_G} {AC : Nat → ClassId} {e0 mi : Nat} {A : Nat → Prop} {mc ms : Nat} {Q : Option Nat → Wd → Prop} (C : Cx p l s m args meth c D AC e0 mi A n_Bt_wayNumbered b_Bt_wayNumbered 2 (some (.object "BeltRows$Way"))) (x0 : Nat) (x1 : Int32) (z0 : Option Nat) (w : Wd) (hq : wb_Bt_wayNumbered_16 e0 mi Q x0 x1 z0 w) : ∀ (H : Heap) (locs : List Loc) (cells slots : Nat) (ls : Array Slot), HW D cls8 FTc AC A s.heap H locs w → lv_has ls 2 [(0, va_rf (some x0)), (1, .int x1)] → cells ≤ mc → slots ≤ ms → W p l e { frames := 0, cells := mc, slots := ms, locals := 0 } s m args below meth c H locs cells slots (vx_MQ below (QQ D AC A (fun v w9 => ∃ r9 : Option Nat, v = some (va_rf r9) ∧ Q r9 w9)) (XX D AC A (fun _ _ => False)) args s mc ms A) (F0 m 16 ls [va_rf z0]) := by
  obtain ⟨hl0, hx, hb, hr, ht, hown, hlocks, hnm, hml, hex, hK, hA, hZ, hV⟩ := id C
  intro H locs cells slots ls hW hl hc hs
  unfold wb_Bt_wayNumbered_16 at hq
  exact bw_aret C (Or.inl ⟨_, rfl⟩) hW ⟨_, rfl, hq⟩ d_Bt_wayNumbered_16 hc hs
def wp_Bt_wayNumbered (e0 mi : Nat) (x0 : Nat) (x1 : Int32) (w : Wd) (Q : Option Nat → Wd → Prop) : Prop :=
  (¬ x1 = (1 : Int32) → (bw_is w x0 0 ∧ (wb_Bt_wayNumbered_16 e0 mi Q x0 x1 (wR w x0 7) w))) ∧ (x1 = (1 : Int32) → (bw_is w x0 0 ∧ (wb_Bt_wayNumbered_16 e0 mi Q x0 x1 (wR w x0 8) w)))
set_option maxHeartbeats 4000000 in
set_option maxRecDepth 100000 in
theorem k_Bt_wayNumbered_0 {p : Program} {l : Launch} {e : Env} {s : State} {m : MethodId} {args : Array Value} {below : List Frame} {meth : Method} {c : Code} {D : va_G} {AC : Nat → ClassId} {e0 mi : Nat} {A : Nat → Prop} {mc ms : Nat} {Q : Option Nat → Wd → Prop} (C : Cx p l s m args meth c D AC e0 mi A n_Bt_wayNumbered b_Bt_wayNumbered 2 (some (.object "BeltRows$Way"))) (x0 : Nat) (x1 : Int32) (w : Wd) (hq : wp_Bt_wayNumbered e0 mi x0 x1 w Q) : ∀ (H : Heap) (locs : List Loc) (cells slots : Nat) (ls : Array Slot), HW D cls8 FTc AC A s.heap H locs w → lv_has ls 2 [(0, va_rf (some x0)), (1, .int x1)] → cells ≤ mc → slots ≤ ms → W p l e { frames := 0, cells := mc, slots := ms, locals := 0 } s m args below meth c H locs cells slots (vx_MQ below (QQ D AC A (fun v w9 => ∃ r9 : Option Nat, v = some (va_rf r9) ∧ Q r9 w9)) (XX D AC A (fun _ _ => False)) args s mc ms A) (F0 m 0 ls []) := by
  obtain ⟨hl0, hx, hb, hr, ht, hown, hlocks, hnm, hml, hex, hK, hA, hZ, hV⟩ := id C
  intro H locs cells slots ls hW hl hc hs
  unfold wp_Bt_wayNumbered at hq
  refine lv_iload_n hx hb d_Bt_wayNumbered_0 rfl (lv_at hl 1 rfl) ?_
  refine lv_iconst (v := 1) hx hb d_Bt_wayNumbered_1 (by decide) ?_
  refine lv_icmp_ne (tgt := 12) hx hb d_Bt_wayNumbered_2 (by decide) (fun c1 => ?_) (fun c1 => ?_)
  · have hq := hq.1 c1
    refine bw_aload_n hx hb d_Bt_wayNumbered_12 rfl (lv_at hl 0 rfl) ?_
    obtain ⟨t2, hq⟩ := hq
    refine bw_getR hx hb ht in_Bt hown hK hW rfl t2 (by decide) rfl 7 (by decide) rfl (ht _ m_253) (fun _ h => h) d_Bt_wayNumbered_13 ?_
    exact k_Bt_wayNumbered_16 C  _ _ _ _ hq _ _ _ _ _ hW (lv_sub hl [0, 1] rfl) hc hs
  · have hq := hq.2 c1
    refine bw_aload_n hx hb d_Bt_wayNumbered_5 rfl (lv_at hl 0 rfl) ?_
    obtain ⟨t3, hq⟩ := hq
    refine bw_getR hx hb ht in_Bt hown hK hW rfl t3 (by decide) rfl 8 (by decide) rfl (ht _ m_254) (fun _ h => h) d_Bt_wayNumbered_6 ?_
    refine lv_goto (tgt := 16) hx hb d_Bt_wayNumbered_9 (by decide) ?_
    exact k_Bt_wayNumbered_16 C  _ _ _ _ hq _ _ _ _ _ hW (lv_sub hl [0, 1] rfl) hc hs
theorem ci_Bt_wayNumbered : CI n_Bt_wayNumbered b_Bt_wayNumbered 2 (some (.object "BeltRows$Way")) 1 := ⟨m_366, m_11, by decide, by decide, by decide +kernel⟩
theorem c_Bt_wayNumbered {l : Launch} {D : va_G} {AC : Nat → ClassId} {e0 mi : Nat} {Q : Option Nat → Wd → Prop} (hl0 : l.stackTraces = false) (x0 : Nat) (x1 : Int32) (w : Wd) (hq : wp_Bt_wayNumbered e0 mi x0 x1 w Q) : Ct l D AC e0 mi n_Bt_wayNumbered (wy n_Bt_wayNumbered b_Bt_wayNumbered 2 (some (.object "BeltRows$Way"))) 0 0 [va_rf (some x0), .int x1] w 0 0 (fun v w9 => ∃ r9 : Option Nat, v = some (va_rf r9) ∧ Q r9 w9) (fun _ _ => False) :=
  Ct.of hl0 (by decide) (by simp [lg_sl, bw_cat, cat_i, cat_j]) (fun p e s m args below meth c A ls C hW hl => k_Bt_wayNumbered_0 C x0 x1 w hq s.heap [] 0 0 ls hW (by simpa [lv_args, bw_cat, cat_i, cat_j] using hl) (Nat.le_refl _) (Nat.le_refl _))
def wb_Bt_wayOf_36 (e0 mi : Nat) (Q : Option Nat → Wd → Prop) (x0 : Nat) (x1 : Option Nat) (x2 : Option Nat) (z0 : Option Nat) (w : Wd) : Prop :=
  Q z0 w
set_option maxHeartbeats 4000000 in
set_option maxRecDepth 100000 in
theorem k_Bt_wayOf_36 {p : Program} {l : Launch} {e : Env} {s : State} {m : MethodId} {args : Array Value} {below : List Frame} {meth : Method} {c : Code} {D : va_G} {AC : Nat → ClassId} {e0 mi : Nat} {A : Nat → Prop} {mc ms : Nat} {Q : Option Nat → Wd → Prop} (C : Cx p l s m args meth c D AC e0 mi A n_Bt_wayOf b_Bt_wayOf 3 (some (.object "BeltRows$Way"))) (x0 : Nat) (x1 : Option Nat) (x2 : Option Nat) (z0 : Option Nat) (w : Wd) (hq : wb_Bt_wayOf_36 e0 mi Q x0 x1 x2 z0 w) : ∀ (H : Heap) (locs : List Loc) (cells slots : Nat) (ls : Array Slot), HW D cls8 FTc AC A s.heap H locs w → lv_has ls 3 [(0, va_rf (some x0)), (1, va_rf x1), (2, va_rf x2)] → cells ≤ mc → slots ≤ ms → W p l e { frames := 1, cells := mc, slots := ms, locals := 21 } s m args below meth c H locs cells slots (vx_MQ below (QQ D AC A (fun v w9 => ∃ r9 : Option Nat, v = some (va_rf r9) ∧ Q r9 w9)) (XX D AC A (fun _ _ => False)) args s mc ms A) (F0 m 36 ls [va_rf z0]) := by
  obtain ⟨hl0, hx, hb, hr, ht, hown, hlocks, hnm, hml, hex, hK, hA, hZ, hV⟩ := id C
  intro H locs cells slots ls hW hl hc hs
  unfold wb_Bt_wayOf_36 at hq
  exact bw_aret C (Or.inl ⟨_, rfl⟩) hW ⟨_, rfl, hq⟩ d_Bt_wayOf_36 hc hs
def wp_Bt_wayOf (e0 mi : Nat) (x0 : Nat) (x1 : Option Nat) (w : Wd) (Q : Option Nat → Wd → Prop) : Prop :=
  ∃ a1 : Nat, x1 = some a1 ∧ (bw_is w a1 2 ∧ (bw_is w x0 0 ∧ (wp_Bt_wayNumbered e0 mi x0 (wI w a1 9) w (fun r10 w5 => ∃ a11 : Nat, r10 = some a11 ∧ (bw_is w5 a11 4 ∧ (((wR w5 a11 0) = none → (bw_is w5 x0 0 ∧ (∃ a15 : Nat, (wR w5 x0 7) = some a15 ∧ (bw_is w5 a15 4 ∧ (((wR w5 a15 0) = none → (wb_Bt_wayOf_36 e0 mi Q x0 x1 r10 none w5)) ∧ (¬ (wR w5 a15 0) = none → (wb_Bt_wayOf_36 e0 mi Q x0 x1 r10 (wR w5 x0 7) w5))))))) ∧ (¬ (wR w5 a11 0) = none → (Q r10 w5))))))))
set_option maxHeartbeats 4000000 in
set_option maxRecDepth 100000 in
theorem k_Bt_wayOf_0 {p : Program} {l : Launch} {e : Env} {s : State} {m : MethodId} {args : Array Value} {below : List Frame} {meth : Method} {c : Code} {D : va_G} {AC : Nat → ClassId} {e0 mi : Nat} {A : Nat → Prop} {mc ms : Nat} {Q : Option Nat → Wd → Prop} (C : Cx p l s m args meth c D AC e0 mi A n_Bt_wayOf b_Bt_wayOf 3 (some (.object "BeltRows$Way"))) (x0 : Nat) (x1 : Option Nat) (w : Wd) (hq : wp_Bt_wayOf e0 mi x0 x1 w Q) : ∀ (H : Heap) (locs : List Loc) (cells slots : Nat) (ls : Array Slot), HW D cls8 FTc AC A s.heap H locs w → lv_has ls 3 [(0, va_rf (some x0)), (1, va_rf x1)] → cells ≤ mc → slots ≤ ms → W p l e { frames := 1, cells := mc, slots := ms, locals := 21 } s m args below meth c H locs cells slots (vx_MQ below (QQ D AC A (fun v w9 => ∃ r9 : Option Nat, v = some (va_rf r9) ∧ Q r9 w9)) (XX D AC A (fun _ _ => False)) args s mc ms A) (F0 m 0 ls []) := by
  obtain ⟨hl0, hx, hb, hr, ht, hown, hlocks, hnm, hml, hex, hK, hA, hZ, hV⟩ := id C
  intro H locs cells slots ls hW hl hc hs
  unfold wp_Bt_wayOf at hq
  refine bw_aload_n hx hb d_Bt_wayOf_0 rfl (lv_at hl 0 rfl) ?_
  refine bw_aload_n hx hb d_Bt_wayOf_1 rfl (lv_at hl 1 rfl) ?_
  obtain ⟨a1, ea1, hq⟩ := hq
  obtain ⟨t2, hq⟩ := hq
  refine bw_getI hx hb ht in_It hown hK hW ea1 t2 (by decide) rfl 9 (by decide) rfl (ht _ m_464) (fun _ h => h) d_Bt_wayOf_2 ?_
  obtain ⟨t3, hq⟩ := hq
  refine bw_callV (As := [.int (wI w a1 9)]) (rest := []) C hW ci_Bt_wayNumbered m_580 m_364 m_365 d_Bt_wayOf_5 rfl t3 (by decide) rfl rfl rfl hl.1 (by decide) ⟨Nat.le_of_ble_eq_true rfl, Nat.le_of_ble_eq_true rfl⟩ ⟨hc, hs⟩ (c_Bt_wayNumbered hl0 _ _ _ hq) (fun _ _ _ _ _ _ h => h.elim) (fun v4 w5 H locs hv hW => ?_)
  obtain ⟨r10, rfl, hq⟩ := hv
  refine W.eq (g2 := F0 m 8 ls [va_rf r10]) rfl ?_
  refine bw_astore_n (i := 2) (lv' := [(2, va_rf r10), (0, va_rf (some x0)), (1, va_rf x1)]) hx hb d_Bt_wayOf_8 rfl hl (by decide) (by simp [bw_cat, cat_i, cat_j]) (fun ls hl => ?_)
  refine bw_aload_n hx hb d_Bt_wayOf_9 rfl (lv_at hl 0 rfl) ?_
  obtain ⟨a11, ea11, hq⟩ := hq
  obtain ⟨t12, hq⟩ := hq
  refine bw_getR hx hb ht in_Wy hown hK hW ea11 t12 (by decide) rfl 0 (by decide) rfl (ht _ m_224) (fun _ h => h) d_Bt_wayOf_10 ?_
  refine bw_ifnull (tgt := 18) hx hb d_Bt_wayOf_13 (by decide) (fun c13 => ?_) (fun c13 => ?_)
  · have hq := hq.1 c13
    refine bw_aload_n hx hb d_Bt_wayOf_18 rfl (lv_at hl 1 rfl) ?_
    obtain ⟨t14, hq⟩ := hq
    refine bw_getR hx hb ht in_Bt hown hK hW rfl t14 (by decide) rfl 7 (by decide) rfl (ht _ m_253) (fun _ h => h) d_Bt_wayOf_19 ?_
    obtain ⟨a15, ea15, hq⟩ := hq
    obtain ⟨t16, hq⟩ := hq
    refine bw_getR hx hb ht in_Wy hown hK hW ea15 t16 (by decide) rfl 0 (by decide) rfl (ht _ m_224) (fun _ h => h) d_Bt_wayOf_22 ?_
    refine bw_ifnull (tgt := 35) hx hb d_Bt_wayOf_25 (by decide) (fun c17 => ?_) (fun c17 => ?_)
    · have hq := hq.1 c17
      refine bw_null hx hb d_Bt_wayOf_35 ?_
      exact k_Bt_wayOf_36 C  _ _ _ _ _ hq _ _ _ _ _ hW (lv_sub hl [1, 2, 0] rfl) hc hs
    · have hq := hq.2 c17
      refine bw_aload_n hx hb d_Bt_wayOf_28 rfl (lv_at hl 1 rfl) ?_
      refine bw_getR hx hb ht in_Bt hown hK hW rfl t14 (by decide) rfl 7 (by decide) rfl (ht _ m_253) (fun _ h => h) d_Bt_wayOf_29 ?_
      refine lv_goto (tgt := 36) hx hb d_Bt_wayOf_32 (by decide) ?_
      exact k_Bt_wayOf_36 C  _ _ _ _ _ hq _ _ _ _ _ hW (lv_sub hl [1, 2, 0] rfl) hc hs
  · have hq := hq.2 c13
    refine bw_aload_n hx hb d_Bt_wayOf_16 rfl (lv_at hl 0 rfl) ?_
    exact bw_aret C (Or.inl ⟨_, rfl⟩) hW ⟨_, rfl, hq⟩ d_Bt_wayOf_17 hc hs
theorem ci_Bt_wayOf : CI n_Bt_wayOf b_Bt_wayOf 3 (some (.object "BeltRows$Way")) 1 := ⟨m_579, m_11, by decide, by decide, by decide +kernel⟩
theorem c_Bt_wayOf {l : Launch} {D : va_G} {AC : Nat → ClassId} {e0 mi : Nat} {Q : Option Nat → Wd → Prop} (hl0 : l.stackTraces = false) (x0 : Nat) (x1 : Option Nat) (w : Wd) (hq : wp_Bt_wayOf e0 mi x0 x1 w Q) : Ct l D AC e0 mi n_Bt_wayOf (wy n_Bt_wayOf b_Bt_wayOf 3 (some (.object "BeltRows$Way"))) 1 21 [va_rf (some x0), va_rf x1] w 0 0 (fun v w9 => ∃ r9 : Option Nat, v = some (va_rf r9) ∧ Q r9 w9) (fun _ _ => False) :=
  Ct.of hl0 (by decide) (by simp [lg_sl, bw_cat, cat_i, cat_j]) (fun p e s m args below meth c A ls C hW hl => k_Bt_wayOf_0 C x0 x1 w hq s.heap [] 0 0 ls hW (by simpa [lv_args, bw_cat, cat_i, cat_j] using hl) (Nat.le_refl _) (Nat.le_refl _))
def wb_Bt_itemAtEnd_29 (e0 mi : Nat) (Q : Option Nat → Wd → Prop) (x0 : Nat) (z0 : Option Nat) (w : Wd) : Prop :=
  Q z0 w
set_option maxHeartbeats 4000000 in
set_option maxRecDepth 100000 in
theorem k_Bt_itemAtEnd_29 {p : Program} {l : Launch} {e : Env} {s : State} {m : MethodId} {args : Array Value} {below : List Frame} {meth : Method} {c : Code} {D : va_G} {AC : Nat → ClassId} {e0 mi : Nat} {A : Nat → Prop} {mc ms : Nat} {Q : Option Nat → Wd → Prop} (C : Cx p l s m args meth c D AC e0 mi A n_Bt_itemAtEnd b_Bt_itemAtEnd 1 (some (.object "BeltRows$Item"))) (x0 : Nat) (z0 : Option Nat) (w : Wd) (hq : wb_Bt_itemAtEnd_29 e0 mi Q x0 z0 w) : ∀ (H : Heap) (locs : List Loc) (cells slots : Nat) (ls : Array Slot), HW D cls8 FTc AC A s.heap H locs w → lv_has ls 1 [(0, va_rf (some x0))] → cells ≤ mc → slots ≤ ms → W p l e { frames := 0, cells := mc, slots := ms, locals := 0 } s m args below meth c H locs cells slots (vx_MQ below (QQ D AC A (fun v w9 => ∃ r9 : Option Nat, v = some (va_rf r9) ∧ Q r9 w9)) (XX D AC A (fun _ _ => False)) args s mc ms A) (F0 m 29 ls [va_rf z0]) := by
  obtain ⟨hl0, hx, hb, hr, ht, hown, hlocks, hnm, hml, hex, hK, hA, hZ, hV⟩ := id C
  intro H locs cells slots ls hW hl hc hs
  unfold wb_Bt_itemAtEnd_29 at hq
  exact bw_aret C (Or.inl ⟨_, rfl⟩) hW ⟨_, rfl, hq⟩ d_Bt_itemAtEnd_29 hc hs
def wb_Bt_itemAtEnd_28 (e0 mi : Nat) (Q : Option Nat → Wd → Prop) (x0 : Nat) (w : Wd) : Prop :=
  wb_Bt_itemAtEnd_29 e0 mi Q x0 none w
set_option maxHeartbeats 4000000 in
set_option maxRecDepth 100000 in
theorem k_Bt_itemAtEnd_28 {p : Program} {l : Launch} {e : Env} {s : State} {m : MethodId} {args : Array Value} {below : List Frame} {meth : Method} {c : Code} {D : va_G} {AC : Nat → ClassId} {e0 mi : Nat} {A : Nat → Prop} {mc ms : Nat} {Q : Option Nat → Wd → Prop} (C : Cx p l s m args meth c D AC e0 mi A n_Bt_itemAtEnd b_Bt_itemAtEnd 1 (some (.object "BeltRows$Item"))) (x0 : Nat) (w : Wd) (hq : wb_Bt_itemAtEnd_28 e0 mi Q x0 w) : ∀ (H : Heap) (locs : List Loc) (cells slots : Nat) (ls : Array Slot), HW D cls8 FTc AC A s.heap H locs w → lv_has ls 1 [(0, va_rf (some x0))] → cells ≤ mc → slots ≤ ms → W p l e { frames := 0, cells := mc, slots := ms, locals := 0 } s m args below meth c H locs cells slots (vx_MQ below (QQ D AC A (fun v w9 => ∃ r9 : Option Nat, v = some (va_rf r9) ∧ Q r9 w9)) (XX D AC A (fun _ _ => False)) args s mc ms A) (F0 m 28 ls []) := by
  obtain ⟨hl0, hx, hb, hr, ht, hown, hlocks, hnm, hml, hex, hK, hA, hZ, hV⟩ := id C
  intro H locs cells slots ls hW hl hc hs
  unfold wb_Bt_itemAtEnd_28 at hq
  refine bw_null hx hb d_Bt_itemAtEnd_28 ?_
  exact k_Bt_itemAtEnd_29 C  _ _ _ hq _ _ _ _ _ hW (lv_sub hl [0] rfl) hc hs
def wp_Bt_itemAtEnd (e0 mi : Nat) (x0 : Nat) (w : Wd) (Q : Option Nat → Wd → Prop) : Prop :=
  bw_is w x0 0 ∧ (((wR w x0 4) = none → (wb_Bt_itemAtEnd_28 e0 mi Q x0 w)) ∧ (¬ (wR w x0 4) = none → (∃ a3 : Nat, (wR w x0 4) = some a3 ∧ (bw_is w a3 2 ∧ ((¬ (wI w a3 7) = (wI w x0 1) → (wb_Bt_itemAtEnd_28 e0 mi Q x0 w)) ∧ ((wI w a3 7) = (wI w x0 1) → (wb_Bt_itemAtEnd_29 e0 mi Q x0 (wR w x0 4) w)))))))
set_option maxHeartbeats 4000000 in
set_option maxRecDepth 100000 in
theorem k_Bt_itemAtEnd_0 {p : Program} {l : Launch} {e : Env} {s : State} {m : MethodId} {args : Array Value} {below : List Frame} {meth : Method} {c : Code} {D : va_G} {AC : Nat → ClassId} {e0 mi : Nat} {A : Nat → Prop} {mc ms : Nat} {Q : Option Nat → Wd → Prop} (C : Cx p l s m args meth c D AC e0 mi A n_Bt_itemAtEnd b_Bt_itemAtEnd 1 (some (.object "BeltRows$Item"))) (x0 : Nat) (w : Wd) (hq : wp_Bt_itemAtEnd e0 mi x0 w Q) : ∀ (H : Heap) (locs : List Loc) (cells slots : Nat) (ls : Array Slot), HW D cls8 FTc AC A s.heap H locs w → lv_has ls 1 [(0, va_rf (some x0))] → cells ≤ mc → slots ≤ ms → W p l e { frames := 0, cells := mc, slots := ms, locals := 0 } s m args below meth c H locs cells slots (vx_MQ below (QQ D AC A (fun v w9 => ∃ r9 : Option Nat, v = some (va_rf r9) ∧ Q r9 w9)) (XX D AC A (fun _ _ => False)) args s mc ms A) (F0 m 0 ls []) := by
  obtain ⟨hl0, hx, hb, hr, ht, hown, hlocks, hnm, hml, hex, hK, hA, hZ, hV⟩ := id C
  intro H locs cells slots ls hW hl hc hs
  unfold wp_Bt_itemAtEnd at hq
  refine bw_aload_n hx hb d_Bt_itemAtEnd_0 rfl (lv_at hl 0 rfl) ?_
  obtain ⟨t1, hq⟩ := hq
  refine bw_getR hx hb ht in_Bt hown hK hW rfl t1 (by decide) rfl 4 (by decide) rfl (ht _ m_247) (fun _ h => h) d_Bt_itemAtEnd_1 ?_
  refine bw_ifnull (tgt := 28) hx hb d_Bt_itemAtEnd_4 (by decide) (fun c2 => ?_) (fun c2 => ?_)
  · have hq := hq.1 c2
    exact k_Bt_itemAtEnd_28 C  _ _ hq _ _ _ _ _ hW (lv_sub hl [0] rfl) hc hs
  · have hq := hq.2 c2
    refine bw_aload_n hx hb d_Bt_itemAtEnd_7 rfl (lv_at hl 0 rfl) ?_
    refine bw_getR hx hb ht in_Bt hown hK hW rfl t1 (by decide) rfl 4 (by decide) rfl (ht _ m_247) (fun _ h => h) d_Bt_itemAtEnd_8 ?_
    obtain ⟨a3, ea3, hq⟩ := hq
    obtain ⟨t4, hq⟩ := hq
    refine bw_getI hx hb ht in_It hown hK hW ea3 t4 (by decide) rfl 7 (by decide) rfl (ht _ m_459) (fun _ h => h) d_Bt_itemAtEnd_11 ?_
    refine bw_aload_n hx hb d_Bt_itemAtEnd_14 rfl (lv_at hl 0 rfl) ?_
    refine bw_getI hx hb ht in_Bt hown hK hW rfl t1 (by decide) rfl 1 (by decide) rfl (ht _ m_239) (fun _ h => h) d_Bt_itemAtEnd_15 ?_
    refine lv_icmp_ne (tgt := 28) hx hb d_Bt_itemAtEnd_18 (by decide) (fun c5 => ?_) (fun c5 => ?_)
    · have hq := hq.1 c5
      exact k_Bt_itemAtEnd_28 C  _ _ hq _ _ _ _ _ hW (lv_sub hl [0] rfl) hc hs
    · have hq := hq.2 c5
      refine bw_aload_n hx hb d_Bt_itemAtEnd_21 rfl (lv_at hl 0 rfl) ?_
      refine bw_getR hx hb ht in_Bt hown hK hW rfl t1 (by decide) rfl 4 (by decide) rfl (ht _ m_247) (fun _ h => h) d_Bt_itemAtEnd_22 ?_
      refine lv_goto (tgt := 29) hx hb d_Bt_itemAtEnd_25 (by decide) ?_
      exact k_Bt_itemAtEnd_29 C  _ _ _ hq _ _ _ _ _ hW (lv_sub hl [0] rfl) hc hs
theorem ci_Bt_itemAtEnd : CI n_Bt_itemAtEnd b_Bt_itemAtEnd 1 (some (.object "BeltRows$Item")) 0 := ⟨m_575, m_11, by decide, by decide, by decide +kernel⟩
theorem c_Bt_itemAtEnd {l : Launch} {D : va_G} {AC : Nat → ClassId} {e0 mi : Nat} {Q : Option Nat → Wd → Prop} (hl0 : l.stackTraces = false) (x0 : Nat) (w : Wd) (hq : wp_Bt_itemAtEnd e0 mi x0 w Q) : Ct l D AC e0 mi n_Bt_itemAtEnd (wy n_Bt_itemAtEnd b_Bt_itemAtEnd 1 (some (.object "BeltRows$Item"))) 0 0 [va_rf (some x0)] w 0 0 (fun v w9 => ∃ r9 : Option Nat, v = some (va_rf r9) ∧ Q r9 w9) (fun _ _ => False) :=
  Ct.of hl0 (by decide) (by simp [lg_sl, bw_cat, cat_i, cat_j]) (fun p e s m args below meth c A ls C hW hl => k_Bt_itemAtEnd_0 C x0 w hq s.heap [] 0 0 ls hW (by simpa [lv_args, bw_cat, cat_i, cat_j] using hl) (Nat.le_refl _) (Nat.le_refl _))
def wb_Bt_wayInUse_25 (e0 mi : Nat) (Q : Option Nat → Wd → Prop) (x0 : Nat) (x1 : Option Nat) (z0 : Option Nat) (w : Wd) : Prop :=
  Q z0 w
set_option maxHeartbeats 4000000 in
set_option maxRecDepth 100000 in
theorem k_Bt_wayInUse_25 {p : Program} {l : Launch} {e : Env} {s : State} {m : MethodId} {args : Array Value} {below : List Frame} {meth : Method} {c : Code} {D : va_G} {AC : Nat → ClassId} {e0 mi : Nat} {A : Nat → Prop} {mc ms : Nat} {Q : Option Nat → Wd → Prop} (C : Cx p l s m args meth c D AC e0 mi A n_Bt_wayInUse b_Bt_wayInUse 2 (some (.object "BeltRows$Way"))) (x0 : Nat) (x1 : Option Nat) (z0 : Option Nat) (w : Wd) (hq : wb_Bt_wayInUse_25 e0 mi Q x0 x1 z0 w) : ∀ (H : Heap) (locs : List Loc) (cells slots : Nat) (ls : Array Slot), HW D cls8 FTc AC A s.heap H locs w → lv_has ls 2 [(0, va_rf (some x0)), (1, va_rf x1)] → cells ≤ mc → slots ≤ ms → W p l e { frames := 2, cells := mc, slots := ms, locals := 43 } s m args below meth c H locs cells slots (vx_MQ below (QQ D AC A (fun v w9 => ∃ r9 : Option Nat, v = some (va_rf r9) ∧ Q r9 w9)) (XX D AC A (fun _ _ => False)) args s mc ms A) (F0 m 25 ls [va_rf z0]) := by
  obtain ⟨hl0, hx, hb, hr, ht, hown, hlocks, hnm, hml, hex, hK, hA, hZ, hV⟩ := id C
  intro H locs cells slots ls hW hl hc hs
  unfold wb_Bt_wayInUse_25 at hq
  exact bw_aret C (Or.inl ⟨_, rfl⟩) hW ⟨_, rfl, hq⟩ d_Bt_wayInUse_25 hc hs
def wb_Bt_wayInUse_24 (e0 mi : Nat) (Q : Option Nat → Wd → Prop) (x0 : Nat) (x1 : Option Nat) (w : Wd) : Prop :=
  wb_Bt_wayInUse_25 e0 mi Q x0 x1 none w
set_option maxHeartbeats 4000000 in
set_option maxRecDepth 100000 in
theorem k_Bt_wayInUse_24 {p : Program} {l : Launch} {e : Env} {s : State} {m : MethodId} {args : Array Value} {below : List Frame} {meth : Method} {c : Code} {D : va_G} {AC : Nat → ClassId} {e0 mi : Nat} {A : Nat → Prop} {mc ms : Nat} {Q : Option Nat → Wd → Prop} (C : Cx p l s m args meth c D AC e0 mi A n_Bt_wayInUse b_Bt_wayInUse 2 (some (.object "BeltRows$Way"))) (x0 : Nat) (x1 : Option Nat) (w : Wd) (hq : wb_Bt_wayInUse_24 e0 mi Q x0 x1 w) : ∀ (H : Heap) (locs : List Loc) (cells slots : Nat) (ls : Array Slot), HW D cls8 FTc AC A s.heap H locs w → lv_has ls 2 [(0, va_rf (some x0)), (1, va_rf x1)] → cells ≤ mc → slots ≤ ms → W p l e { frames := 2, cells := mc, slots := ms, locals := 43 } s m args below meth c H locs cells slots (vx_MQ below (QQ D AC A (fun v w9 => ∃ r9 : Option Nat, v = some (va_rf r9) ∧ Q r9 w9)) (XX D AC A (fun _ _ => False)) args s mc ms A) (F0 m 24 ls []) := by
  obtain ⟨hl0, hx, hb, hr, ht, hown, hlocks, hnm, hml, hex, hK, hA, hZ, hV⟩ := id C
  intro H locs cells slots ls hW hl hc hs
  unfold wb_Bt_wayInUse_24 at hq
  refine bw_null hx hb d_Bt_wayInUse_24 ?_
  exact k_Bt_wayInUse_25 C  _ _ _ _ hq _ _ _ _ _ hW (lv_sub hl [0, 1] rfl) hc hs
def wp_Bt_wayInUse (e0 mi : Nat) (x0 : Nat) (w : Wd) (Q : Option Nat → Wd → Prop) : Prop :=
  bw_is w x0 0 ∧ (wp_Bt_itemAtEnd e0 mi x0 w (fun r8 w3 => bw_is w3 x0 0 ∧ (((wI w3 x0 3) = 0 → (wb_Bt_wayInUse_24 e0 mi Q x0 r8 w3)) ∧ (¬ (wI w3 x0 3) = 0 → ((r8 = none → (wb_Bt_wayInUse_24 e0 mi Q x0 r8 w3)) ∧ (¬ r8 = none → (wp_Bt_wayOf e0 mi x0 r8 w3 (fun r18 w13 => wb_Bt_wayInUse_25 e0 mi Q x0 r8 r18 w13))))))))
set_option maxHeartbeats 4000000 in
set_option maxRecDepth 100000 in
theorem k_Bt_wayInUse_0 {p : Program} {l : Launch} {e : Env} {s : State} {m : MethodId} {args : Array Value} {below : List Frame} {meth : Method} {c : Code} {D : va_G} {AC : Nat → ClassId} {e0 mi : Nat} {A : Nat → Prop} {mc ms : Nat} {Q : Option Nat → Wd → Prop} (C : Cx p l s m args meth c D AC e0 mi A n_Bt_wayInUse b_Bt_wayInUse 2 (some (.object "BeltRows$Way"))) (x0 : Nat) (w : Wd) (hq : wp_Bt_wayInUse e0 mi x0 w Q) : ∀ (H : Heap) (locs : List Loc) (cells slots : Nat) (ls : Array Slot), HW D cls8 FTc AC A s.heap H locs w → lv_has ls 2 [(0, va_rf (some x0))] → cells ≤ mc → slots ≤ ms → W p l e { frames := 2, cells := mc, slots := ms, locals := 43 } s m args below meth c H locs cells slots (vx_MQ below (QQ D AC A (fun v w9 => ∃ r9 : Option Nat, v = some (va_rf r9) ∧ Q r9 w9)) (XX D AC A (fun _ _ => False)) args s mc ms A) (F0 m 0 ls []) := by
  obtain ⟨hl0, hx, hb, hr, ht, hown, hlocks, hnm, hml, hex, hK, hA, hZ, hV⟩ := id C
  intro H locs cells slots ls hW hl hc hs
  unfold wp_Bt_wayInUse at hq
  refine bw_aload_n hx hb d_Bt_wayInUse_0 rfl (lv_at hl 0 rfl) ?_
  obtain ⟨t1, hq⟩ := hq
  refine bw_callV (As := []) (rest := []) C hW ci_Bt_itemAtEnd m_623 m_573 m_574 d_Bt_wayInUse_1 rfl t1 (by decide) rfl rfl rfl hl.1 (by decide) ⟨Nat.le_of_ble_eq_true rfl, Nat.le_of_ble_eq_true rfl⟩ ⟨hc, hs⟩ (c_Bt_itemAtEnd hl0 _ _ hq) (fun _ _ _ _ _ _ h => h.elim) (fun v2 w3 H locs hv hW => ?_)
  obtain ⟨r8, rfl, hq⟩ := hv
  refine W.eq (g2 := F0 m 4 ls [va_rf r8]) rfl ?_
  refine bw_astore_n (i := 1) (lv' := [(1, va_rf r8), (0, va_rf (some x0))]) hx hb d_Bt_wayInUse_4 rfl hl (by decide) (by simp [bw_cat, cat_i, cat_j]) (fun ls hl => ?_)
  refine bw_aload_n hx hb d_Bt_wayInUse_5 rfl (lv_at hl 1 rfl) ?_
  obtain ⟨t9, hq⟩ := hq
  refine bw_getI hx hb ht in_Bt hown hK hW rfl t9 (by decide) rfl 3 (by decide) rfl (ht _ m_245) (fun _ h => h) d_Bt_wayInUse_6 ?_
  refine lv_if_eq (tgt := 24) hx hb d_Bt_wayInUse_9 (by decide) (fun c10 => ?_) (fun c10 => ?_)
  · have hq := hq.1 c10
    exact k_Bt_wayInUse_24 C  _ _ _ hq _ _ _ _ _ hW (lv_sub hl [1, 0] rfl) hc hs
  · have hq := hq.2 c10
    refine bw_aload_n hx hb d_Bt_wayInUse_12 rfl (lv_at hl 0 rfl) ?_
    refine bw_ifnull (tgt := 24) hx hb d_Bt_wayInUse_13 (by decide) (fun c11 => ?_) (fun c11 => ?_)
    · have hq := hq.1 c11
      exact k_Bt_wayInUse_24 C  _ _ _ hq _ _ _ _ _ hW (lv_sub hl [1, 0] rfl) hc hs
    · have hq := hq.2 c11
      refine bw_aload_n hx hb d_Bt_wayInUse_16 rfl (lv_at hl 1 rfl) ?_
      refine bw_aload_n hx hb d_Bt_wayInUse_17 rfl (lv_at hl 0 rfl) ?_
      refine bw_callV (As := [va_rf r8]) (rest := []) C hW ci_Bt_wayOf m_624 m_577 m_578 d_Bt_wayInUse_18 rfl t9 (by decide) rfl rfl rfl hl.1 (by decide) ⟨Nat.le_of_ble_eq_true rfl, Nat.le_of_ble_eq_true rfl⟩ ⟨hc, hs⟩ (c_Bt_wayOf hl0 _ _ _ hq) (fun _ _ _ _ _ _ h => h.elim) (fun v12 w13 H locs hv hW => ?_)
      obtain ⟨r18, rfl, hq⟩ := hv
      refine W.eq (g2 := F0 m 21 ls [va_rf r18]) rfl ?_
      refine lv_goto (tgt := 25) hx hb d_Bt_wayInUse_21 (by decide) ?_
      exact k_Bt_wayInUse_25 C  _ _ _ _ hq _ _ _ _ _ hW (lv_sub hl [1, 0] rfl) hc hs
theorem ci_Bt_wayInUse : CI n_Bt_wayInUse b_Bt_wayInUse 2 (some (.object "BeltRows$Way")) 0 := ⟨m_622, m_11, by decide, by decide, by decide +kernel⟩
theorem c_Bt_wayInUse {l : Launch} {D : va_G} {AC : Nat → ClassId} {e0 mi : Nat} {Q : Option Nat → Wd → Prop} (hl0 : l.stackTraces = false) (x0 : Nat) (w : Wd) (hq : wp_Bt_wayInUse e0 mi x0 w Q) : Ct l D AC e0 mi n_Bt_wayInUse (wy n_Bt_wayInUse b_Bt_wayInUse 2 (some (.object "BeltRows$Way"))) 2 43 [va_rf (some x0)] w 0 0 (fun v w9 => ∃ r9 : Option Nat, v = some (va_rf r9) ∧ Q r9 w9) (fun _ _ => False) :=
  Ct.of hl0 (by decide) (by simp [lg_sl, bw_cat, cat_i, cat_j]) (fun p e s m args below meth c A ls C hW hl => k_Bt_wayInUse_0 C x0 w hq s.heap [] 0 0 ls hW (by simpa [lv_args, bw_cat, cat_i, cat_j] using hl) (Nat.le_refl _) (Nat.le_refl _))
def wb_Bt_takeOn_32 (e0 mi : Nat) (Q : Wd → Prop) (x0 : Nat) (x1 : Option Nat) (w : Wd) : Prop :=
  bw_is w x0 0 ∧ (Q (sI (sR w x0 5 x1) x0 6 ((wI (sR w x0 5 x1) x0 6) + (1 : Int32))))
set_option maxHeartbeats 4000000 in
set_option maxRecDepth 100000 in
theorem k_Bt_takeOn_32 {p : Program} {l : Launch} {e : Env} {s : State} {m : MethodId} {args : Array Value} {below : List Frame} {meth : Method} {c : Code} {D : va_G} {AC : Nat → ClassId} {e0 mi : Nat} {A : Nat → Prop} {mc ms : Nat} {Q : Wd → Prop} (C : Cx p l s m args meth c D AC e0 mi A n_Bt_takeOn b_Bt_takeOn 2 none) (x0 : Nat) (x1 : Option Nat) (w : Wd) (hq : wb_Bt_takeOn_32 e0 mi Q x0 x1 w) : ∀ (H : Heap) (locs : List Loc) (cells slots : Nat) (ls : Array Slot), HW D cls8 FTc AC A s.heap H locs w → lv_has ls 2 [(0, va_rf (some x0)), (1, va_rf x1)] → cells ≤ mc → slots ≤ ms → W p l e { frames := 2, cells := mc, slots := ms, locals := 42 } s m args below meth c H locs cells slots (vx_MQ below (QQ D AC A (fun v w9 => v = none ∧ Q w9)) (XX D AC A (fun _ _ => False)) args s mc ms A) (F0 m 32 ls []) := by
  obtain ⟨hl0, hx, hb, hr, ht, hown, hlocks, hnm, hml, hex, hK, hA, hZ, hV⟩ := id C
  intro H locs cells slots ls hW hl hc hs
  unfold wb_Bt_takeOn_32 at hq
  refine bw_aload_n hx hb d_Bt_takeOn_32 rfl (lv_at hl 0 rfl) ?_
  refine bw_aload_n hx hb d_Bt_takeOn_33 rfl (lv_at hl 1 rfl) ?_
  obtain ⟨t1, hq⟩ := hq
  refine bw_putR hx hb ht in_Bt y_Bt yk_Bt nm_Bt hown hK hW rfl t1 (by decide) rfl 5 (by decide) rfl (ht _ m_249) (fun _ h => h) (Or.inl rfl) (bw_nr _ _) (bw_fr _ _) d_Bt_takeOn_34 (fun H locs hW => ?_)
  refine bw_aload_n hx hb d_Bt_takeOn_37 rfl (lv_at hl 0 rfl) ?_
  refine lv_dup hx hb d_Bt_takeOn_38 (bw_cat _) ?_
  refine bw_getI hx hb ht in_Bt hown hK hW rfl t1 (by decide) rfl 6 (by decide) rfl (ht _ m_251) (fun _ h => h) d_Bt_takeOn_39 ?_
  refine lv_iconst (v := 1) hx hb d_Bt_takeOn_42 (by decide) ?_
  refine lv_iadd hx hb d_Bt_takeOn_43 ?_
  refine bw_putI hx hb ht in_Bt y_Bt yk_Bt nm_Bt hown hK hW rfl t1 (by decide) rfl 6 (by decide) rfl (ht _ m_251) (fun _ h => h) (Or.inl rfl) rfl rfl d_Bt_takeOn_44 (fun H locs hW => ?_)
  exact bw_vret C hW ⟨rfl, hq⟩ d_Bt_takeOn_47 hc hs
def wp_Bt_takeOn (e0 mi : Nat) (x0 : Nat) (x1 : Option Nat) (w : Wd) (Q : Wd → Prop) : Prop :=
  bw_is w x0 0 ∧ (∃ a2 : Nat, x1 = some a2 ∧ (bw_is w a2 2 ∧ (wp_It_startOn e0 mi a2 (some x0) (wR w x0 5) w (fun w5 => bw_is w5 x0 0 ∧ ((¬ (wR w5 x0 5) = none → (∃ a13 : Nat, (wR w5 x0 5) = some a13 ∧ (bw_is w5 a13 2 ∧ (wb_Bt_takeOn_32 e0 mi Q x0 x1 (sR w5 a13 5 x1))))) ∧ ((wR w5 x0 5) = none → (wb_Bt_takeOn_32 e0 mi Q x0 x1 (sR w5 x0 4 x1))))))))
set_option maxHeartbeats 4000000 in
set_option maxRecDepth 100000 in
theorem k_Bt_takeOn_0 {p : Program} {l : Launch} {e : Env} {s : State} {m : MethodId} {args : Array Value} {below : List Frame} {meth : Method} {c : Code} {D : va_G} {AC : Nat → ClassId} {e0 mi : Nat} {A : Nat → Prop} {mc ms : Nat} {Q : Wd → Prop} (C : Cx p l s m args meth c D AC e0 mi A n_Bt_takeOn b_Bt_takeOn 2 none) (x0 : Nat) (x1 : Option Nat) (w : Wd) (hq : wp_Bt_takeOn e0 mi x0 x1 w Q) : ∀ (H : Heap) (locs : List Loc) (cells slots : Nat) (ls : Array Slot), HW D cls8 FTc AC A s.heap H locs w → lv_has ls 2 [(0, va_rf (some x0)), (1, va_rf x1)] → cells ≤ mc → slots ≤ ms → W p l e { frames := 2, cells := mc, slots := ms, locals := 42 } s m args below meth c H locs cells slots (vx_MQ below (QQ D AC A (fun v w9 => v = none ∧ Q w9)) (XX D AC A (fun _ _ => False)) args s mc ms A) (F0 m 0 ls []) := by
  obtain ⟨hl0, hx, hb, hr, ht, hown, hlocks, hnm, hml, hex, hK, hA, hZ, hV⟩ := id C
  intro H locs cells slots ls hW hl hc hs
  unfold wp_Bt_takeOn at hq
  refine bw_aload_n hx hb d_Bt_takeOn_0 rfl (lv_at hl 1 rfl) ?_
  refine bw_aload_n hx hb d_Bt_takeOn_1 rfl (lv_at hl 0 rfl) ?_
  refine bw_aload_n hx hb d_Bt_takeOn_2 rfl (lv_at hl 0 rfl) ?_
  obtain ⟨t1, hq⟩ := hq
  refine bw_getR hx hb ht in_Bt hown hK hW rfl t1 (by decide) rfl 5 (by decide) rfl (ht _ m_249) (fun _ h => h) d_Bt_takeOn_3 ?_
  obtain ⟨a2, ea2, hq⟩ := hq
  obtain ⟨t3, hq⟩ := hq
  refine bw_callV (As := [va_rf (some x0), va_rf (wR w x0 5)]) (rest := []) C hW ci_It_startOn m_495 m_496 m_497 d_Bt_takeOn_6 ea2 t3 (by decide) rfl rfl rfl hl.1 (by decide) ⟨Nat.le_of_ble_eq_true rfl, Nat.le_of_ble_eq_true rfl⟩ ⟨hc, hs⟩ (c_It_startOn hl0 _ _ _ _ hq) (fun _ _ _ _ _ _ h => h.elim) (fun v4 w5 H locs hv hW => ?_)
  obtain ⟨rfl, hq⟩ := hv
  refine W.eq (g2 := F0 m 9 ls []) rfl ?_
  refine bw_aload_n hx hb d_Bt_takeOn_9 rfl (lv_at hl 0 rfl) ?_
  obtain ⟨t11, hq⟩ := hq
  refine bw_getR hx hb ht in_Bt hown hK hW rfl t11 (by decide) rfl 5 (by decide) rfl (ht _ m_249) (fun _ h => h) d_Bt_takeOn_10 ?_
  refine bw_ifnonnull (tgt := 24) hx hb d_Bt_takeOn_13 (by decide) (fun c12 => ?_) (fun c12 => ?_)
  · have hq := hq.1 c12
    refine bw_aload_n hx hb d_Bt_takeOn_24 rfl (lv_at hl 0 rfl) ?_
    refine bw_getR hx hb ht in_Bt hown hK hW rfl t11 (by decide) rfl 5 (by decide) rfl (ht _ m_249) (fun _ h => h) d_Bt_takeOn_25 ?_
    refine bw_aload_n hx hb d_Bt_takeOn_28 rfl (lv_at hl 1 rfl) ?_
    obtain ⟨a13, ea13, hq⟩ := hq
    obtain ⟨t14, hq⟩ := hq
    refine bw_putR hx hb ht in_It y_It yk_It nm_It hown hK hW ea13 t14 (by decide) rfl 5 (by decide) rfl (ht _ m_454) (fun _ h => h) (Or.inl rfl) (bw_nr _ _) (bw_fr _ _) d_Bt_takeOn_29 (fun H locs hW => ?_)
    exact k_Bt_takeOn_32 C  _ _ _ hq _ _ _ _ _ hW (lv_sub hl [0, 1] rfl) hc hs
  · have hq := hq.2 c12
    refine bw_aload_n hx hb d_Bt_takeOn_16 rfl (lv_at hl 0 rfl) ?_
    refine bw_aload_n hx hb d_Bt_takeOn_17 rfl (lv_at hl 1 rfl) ?_
    refine bw_putR hx hb ht in_Bt y_Bt yk_Bt nm_Bt hown hK hW rfl t11 (by decide) rfl 4 (by decide) rfl (ht _ m_247) (fun _ h => h) (Or.inl rfl) (bw_nr _ _) (bw_fr _ _) d_Bt_takeOn_18 (fun H locs hW => ?_)
    refine lv_goto (tgt := 32) hx hb d_Bt_takeOn_21 (by decide) ?_
    exact k_Bt_takeOn_32 C  _ _ _ hq _ _ _ _ _ hW (lv_sub hl [0, 1] rfl) hc hs
theorem ci_Bt_takeOn : CI n_Bt_takeOn b_Bt_takeOn 2 none 1 := ⟨m_494, m_11, by decide, by decide, by decide +kernel⟩
theorem c_Bt_takeOn {l : Launch} {D : va_G} {AC : Nat → ClassId} {e0 mi : Nat} {Q : Wd → Prop} (hl0 : l.stackTraces = false) (x0 : Nat) (x1 : Option Nat) (w : Wd) (hq : wp_Bt_takeOn e0 mi x0 x1 w Q) : Ct l D AC e0 mi n_Bt_takeOn (wy n_Bt_takeOn b_Bt_takeOn 2 none) 2 42 [va_rf (some x0), va_rf x1] w 0 0 (fun v w9 => v = none ∧ Q w9) (fun _ _ => False) :=
  Ct.of hl0 (by decide) (by simp [lg_sl, bw_cat, cat_i, cat_j]) (fun p e s m args below meth c A ls C hW hl => k_Bt_takeOn_0 C x0 x1 w hq s.heap [] 0 0 ls hW (by simpa [lv_args, bw_cat, cat_i, cat_j] using hl) (Nat.le_refl _) (Nat.le_refl _))
def wb_Bt_letGo_58 (e0 mi : Nat) (Q : Wd → Prop) (x0 : Nat) (x1 : Option Nat) (w : Wd) : Prop :=
  ∃ a1 : Nat, x1 = some a1 ∧ (bw_is w a1 2 ∧ (bw_is (sR (sR w a1 4 none) a1 5 none) x0 0 ∧ (Q (sI (sR (sR w a1 4 none) a1 5 none) x0 6 ((wI (sR (sR w a1 4 none) a1 5 none) x0 6) - (1 : Int32))))))
set_option maxHeartbeats 4000000 in
set_option maxRecDepth 100000 in
theorem k_Bt_letGo_58 {p : Program} {l : Launch} {e : Env} {s : State} {m : MethodId} {args : Array Value} {below : List Frame} {meth : Method} {c : Code} {D : va_G} {AC : Nat → ClassId} {e0 mi : Nat} {A : Nat → Prop} {mc ms : Nat} {Q : Wd → Prop} (C : Cx p l s m args meth c D AC e0 mi A n_Bt_letGo b_Bt_letGo 2 none) (x0 : Nat) (x1 : Option Nat) (w : Wd) (hq : wb_Bt_letGo_58 e0 mi Q x0 x1 w) : ∀ (H : Heap) (locs : List Loc) (cells slots : Nat) (ls : Array Slot), HW D cls8 FTc AC A s.heap H locs w → lv_has ls 2 [(0, va_rf (some x0)), (1, va_rf x1)] → cells ≤ mc → slots ≤ ms → W p l e { frames := 0, cells := mc, slots := ms, locals := 0 } s m args below meth c H locs cells slots (vx_MQ below (QQ D AC A (fun v w9 => v = none ∧ Q w9)) (XX D AC A (fun _ _ => False)) args s mc ms A) (F0 m 58 ls []) := by
  obtain ⟨hl0, hx, hb, hr, ht, hown, hlocks, hnm, hml, hex, hK, hA, hZ, hV⟩ := id C
  intro H locs cells slots ls hW hl hc hs
  unfold wb_Bt_letGo_58 at hq
  refine bw_aload_n hx hb d_Bt_letGo_58 rfl (lv_at hl 1 rfl) ?_
  refine bw_null hx hb d_Bt_letGo_59 ?_
  obtain ⟨a1, ea1, hq⟩ := hq
  obtain ⟨t2, hq⟩ := hq
  refine bw_putR hx hb ht in_It y_It yk_It nm_It hown hK hW ea1 t2 (by decide) rfl 4 (by decide) rfl (ht _ m_452) (fun _ h => h) (Or.inl rfl) (bw_nr _ _) (bw_fr _ _) d_Bt_letGo_60 (fun H locs hW => ?_)
  refine bw_aload_n hx hb d_Bt_letGo_63 rfl (lv_at hl 1 rfl) ?_
  refine bw_null hx hb d_Bt_letGo_64 ?_
  refine bw_putR hx hb ht in_It y_It yk_It nm_It hown hK hW ea1 t2 (by decide) rfl 5 (by decide) rfl (ht _ m_454) (fun _ h => h) (Or.inl rfl) (bw_nr _ _) (bw_fr _ _) d_Bt_letGo_65 (fun H locs hW => ?_)
  refine bw_aload_n hx hb d_Bt_letGo_68 rfl (lv_at hl 0 rfl) ?_
  refine lv_dup hx hb d_Bt_letGo_69 (bw_cat _) ?_
  obtain ⟨t3, hq⟩ := hq
  refine bw_getI hx hb ht in_Bt hown hK hW rfl t3 (by decide) rfl 6 (by decide) rfl (ht _ m_251) (fun _ h => h) d_Bt_letGo_70 ?_
  refine lv_iconst (v := 1) hx hb d_Bt_letGo_73 (by decide) ?_
  refine lv_isub hx hb d_Bt_letGo_74 ?_
  refine bw_putI hx hb ht in_Bt y_Bt yk_Bt nm_Bt hown hK hW rfl t3 (by decide) rfl 6 (by decide) rfl (ht _ m_251) (fun _ h => h) (Or.inl rfl) rfl rfl d_Bt_letGo_75 (fun H locs hW => ?_)
  exact bw_vret C hW ⟨rfl, hq⟩ d_Bt_letGo_78 hc hs
def wb_Bt_letGo_29 (e0 mi : Nat) (Q : Wd → Prop) (x0 : Nat) (x1 : Option Nat) (w : Wd) : Prop :=
  ∃ a1 : Nat, x1 = some a1 ∧ (bw_is w a1 2 ∧ ((¬ (wR w a1 5) = none → (∃ a4 : Nat, (wR w a1 5) = some a4 ∧ (bw_is w a4 2 ∧ (wb_Bt_letGo_58 e0 mi Q x0 x1 (sR w a4 4 (wR w a1 4)))))) ∧ ((wR w a1 5) = none → (bw_is w x0 0 ∧ (wb_Bt_letGo_58 e0 mi Q x0 x1 (sR w x0 5 (wR w a1 4)))))))
set_option maxHeartbeats 4000000 in
set_option maxRecDepth 100000 in
theorem k_Bt_letGo_29 {p : Program} {l : Launch} {e : Env} {s : State} {m : MethodId} {args : Array Value} {below : List Frame} {meth : Method} {c : Code} {D : va_G} {AC : Nat → ClassId} {e0 mi : Nat} {A : Nat → Prop} {mc ms : Nat} {Q : Wd → Prop} (C : Cx p l s m args meth c D AC e0 mi A n_Bt_letGo b_Bt_letGo 2 none) (x0 : Nat) (x1 : Option Nat) (w : Wd) (hq : wb_Bt_letGo_29 e0 mi Q x0 x1 w) : ∀ (H : Heap) (locs : List Loc) (cells slots : Nat) (ls : Array Slot), HW D cls8 FTc AC A s.heap H locs w → lv_has ls 2 [(0, va_rf (some x0)), (1, va_rf x1)] → cells ≤ mc → slots ≤ ms → W p l e { frames := 0, cells := mc, slots := ms, locals := 0 } s m args below meth c H locs cells slots (vx_MQ below (QQ D AC A (fun v w9 => v = none ∧ Q w9)) (XX D AC A (fun _ _ => False)) args s mc ms A) (F0 m 29 ls []) := by
  obtain ⟨hl0, hx, hb, hr, ht, hown, hlocks, hnm, hml, hex, hK, hA, hZ, hV⟩ := id C
  intro H locs cells slots ls hW hl hc hs
  unfold wb_Bt_letGo_29 at hq
  refine bw_aload_n hx hb d_Bt_letGo_29 rfl (lv_at hl 1 rfl) ?_
  obtain ⟨a1, ea1, hq⟩ := hq
  obtain ⟨t2, hq⟩ := hq
  refine bw_getR hx hb ht in_It hown hK hW ea1 t2 (by decide) rfl 5 (by decide) rfl (ht _ m_454) (fun _ h => h) d_Bt_letGo_30 ?_
  refine bw_ifnonnull (tgt := 47) hx hb d_Bt_letGo_33 (by decide) (fun c3 => ?_) (fun c3 => ?_)
  · have hq := hq.1 c3
    refine bw_aload_n hx hb d_Bt_letGo_47 rfl (lv_at hl 1 rfl) ?_
    refine bw_getR hx hb ht in_It hown hK hW ea1 t2 (by decide) rfl 5 (by decide) rfl (ht _ m_454) (fun _ h => h) d_Bt_letGo_48 ?_
    refine bw_aload_n hx hb d_Bt_letGo_51 rfl (lv_at hl 1 rfl) ?_
    refine bw_getR hx hb ht in_It hown hK hW ea1 t2 (by decide) rfl 4 (by decide) rfl (ht _ m_452) (fun _ h => h) d_Bt_letGo_52 ?_
    obtain ⟨a4, ea4, hq⟩ := hq
    obtain ⟨t5, hq⟩ := hq
    refine bw_putR hx hb ht in_It y_It yk_It nm_It hown hK hW ea4 t5 (by decide) rfl 4 (by decide) rfl (ht _ m_452) (fun _ h => h) (Or.inl rfl) (bw_nr _ _) (bw_fr _ _) d_Bt_letGo_55 (fun H locs hW => ?_)
    exact k_Bt_letGo_58 C  _ _ _ hq _ _ _ _ _ hW (lv_sub hl [0, 1] rfl) hc hs
  · have hq := hq.2 c3
    refine bw_aload_n hx hb d_Bt_letGo_36 rfl (lv_at hl 0 rfl) ?_
    refine bw_aload_n hx hb d_Bt_letGo_37 rfl (lv_at hl 1 rfl) ?_
    refine bw_getR hx hb ht in_It hown hK hW ea1 t2 (by decide) rfl 4 (by decide) rfl (ht _ m_452) (fun _ h => h) d_Bt_letGo_38 ?_
    obtain ⟨t6, hq⟩ := hq
    refine bw_putR hx hb ht in_Bt y_Bt yk_Bt nm_Bt hown hK hW rfl t6 (by decide) rfl 5 (by decide) rfl (ht _ m_249) (fun _ h => h) (Or.inl rfl) (bw_nr _ _) (bw_fr _ _) d_Bt_letGo_41 (fun H locs hW => ?_)
    refine lv_goto (tgt := 58) hx hb d_Bt_letGo_44 (by decide) ?_
    exact k_Bt_letGo_58 C  _ _ _ hq _ _ _ _ _ hW (lv_sub hl [0, 1] rfl) hc hs
def wp_Bt_letGo (e0 mi : Nat) (x0 : Nat) (x1 : Option Nat) (w : Wd) (Q : Wd → Prop) : Prop :=
  ∃ a1 : Nat, x1 = some a1 ∧ (bw_is w a1 2 ∧ ((¬ (wR w a1 4) = none → (∃ a4 : Nat, (wR w a1 4) = some a4 ∧ (bw_is w a4 2 ∧ (wb_Bt_letGo_29 e0 mi Q x0 x1 (sR w a4 5 (wR w a1 5)))))) ∧ ((wR w a1 4) = none → (bw_is w x0 0 ∧ (wb_Bt_letGo_29 e0 mi Q x0 x1 (sR w x0 4 (wR w a1 5)))))))
set_option maxHeartbeats 4000000 in
set_option maxRecDepth 100000 in
theorem k_Bt_letGo_0 {p : Program} {l : Launch} {e : Env} {s : State} {m : MethodId} {args : Array Value} {below : List Frame} {meth : Method} {c : Code} {D : va_G} {AC : Nat → ClassId} {e0 mi : Nat} {A : Nat → Prop} {mc ms : Nat} {Q : Wd → Prop} (C : Cx p l s m args meth c D AC e0 mi A n_Bt_letGo b_Bt_letGo 2 none) (x0 : Nat) (x1 : Option Nat) (w : Wd) (hq : wp_Bt_letGo e0 mi x0 x1 w Q) : ∀ (H : Heap) (locs : List Loc) (cells slots : Nat) (ls : Array Slot), HW D cls8 FTc AC A s.heap H locs w → lv_has ls 2 [(0, va_rf (some x0)), (1, va_rf x1)] → cells ≤ mc → slots ≤ ms → W p l e { frames := 0, cells := mc, slots := ms, locals := 0 } s m args below meth c H locs cells slots (vx_MQ below (QQ D AC A (fun v w9 => v = none ∧ Q w9)) (XX D AC A (fun _ _ => False)) args s mc ms A) (F0 m 0 ls []) := by
  obtain ⟨hl0, hx, hb, hr, ht, hown, hlocks, hnm, hml, hex, hK, hA, hZ, hV⟩ := id C
  intro H locs cells slots ls hW hl hc hs
  unfold wp_Bt_letGo at hq
  refine bw_aload_n hx hb d_Bt_letGo_0 rfl (lv_at hl 1 rfl) ?_
  obtain ⟨a1, ea1, hq⟩ := hq
  obtain ⟨t2, hq⟩ := hq
  refine bw_getR hx hb ht in_It hown hK hW ea1 t2 (by decide) rfl 4 (by decide) rfl (ht _ m_452) (fun _ h => h) d_Bt_letGo_1 ?_
  refine bw_ifnonnull (tgt := 18) hx hb d_Bt_letGo_4 (by decide) (fun c3 => ?_) (fun c3 => ?_)
  · have hq := hq.1 c3
    refine bw_aload_n hx hb d_Bt_letGo_18 rfl (lv_at hl 1 rfl) ?_
    refine bw_getR hx hb ht in_It hown hK hW ea1 t2 (by decide) rfl 4 (by decide) rfl (ht _ m_452) (fun _ h => h) d_Bt_letGo_19 ?_
    refine bw_aload_n hx hb d_Bt_letGo_22 rfl (lv_at hl 1 rfl) ?_
    refine bw_getR hx hb ht in_It hown hK hW ea1 t2 (by decide) rfl 5 (by decide) rfl (ht _ m_454) (fun _ h => h) d_Bt_letGo_23 ?_
    obtain ⟨a4, ea4, hq⟩ := hq
    obtain ⟨t5, hq⟩ := hq
    refine bw_putR hx hb ht in_It y_It yk_It nm_It hown hK hW ea4 t5 (by decide) rfl 5 (by decide) rfl (ht _ m_454) (fun _ h => h) (Or.inl rfl) (bw_nr _ _) (bw_fr _ _) d_Bt_letGo_26 (fun H locs hW => ?_)
    exact k_Bt_letGo_29 C  _ _ _ hq _ _ _ _ _ hW (lv_sub hl [0, 1] rfl) hc hs
  · have hq := hq.2 c3
    refine bw_aload_n hx hb d_Bt_letGo_7 rfl (lv_at hl 0 rfl) ?_
    refine bw_aload_n hx hb d_Bt_letGo_8 rfl (lv_at hl 1 rfl) ?_
    refine bw_getR hx hb ht in_It hown hK hW ea1 t2 (by decide) rfl 5 (by decide) rfl (ht _ m_454) (fun _ h => h) d_Bt_letGo_9 ?_
    obtain ⟨t6, hq⟩ := hq
    refine bw_putR hx hb ht in_Bt y_Bt yk_Bt nm_Bt hown hK hW rfl t6 (by decide) rfl 4 (by decide) rfl (ht _ m_247) (fun _ h => h) (Or.inl rfl) (bw_nr _ _) (bw_fr _ _) d_Bt_letGo_12 (fun H locs hW => ?_)
    refine lv_goto (tgt := 29) hx hb d_Bt_letGo_15 (by decide) ?_
    exact k_Bt_letGo_29 C  _ _ _ hq _ _ _ _ _ hW (lv_sub hl [0, 1] rfl) hc hs
theorem ci_Bt_letGo : CI n_Bt_letGo b_Bt_letGo 2 none 1 := ⟨m_588, m_11, by decide, by decide, by decide +kernel⟩
theorem c_Bt_letGo {l : Launch} {D : va_G} {AC : Nat → ClassId} {e0 mi : Nat} {Q : Wd → Prop} (hl0 : l.stackTraces = false) (x0 : Nat) (x1 : Option Nat) (w : Wd) (hq : wp_Bt_letGo e0 mi x0 x1 w Q) : Ct l D AC e0 mi n_Bt_letGo (wy n_Bt_letGo b_Bt_letGo 2 none) 0 0 [va_rf (some x0), va_rf x1] w 0 0 (fun v w9 => v = none ∧ Q w9) (fun _ _ => False) :=
  Ct.of hl0 (by decide) (by simp [lg_sl, bw_cat, cat_i, cat_j]) (fun p e s m args below meth c A ls C hW hl => k_Bt_letGo_0 C x0 x1 w hq s.heap [] 0 0 ls hW (by simpa [lv_args, bw_cat, cat_i, cat_j] using hl) (Nat.le_refl _) (Nat.le_refl _))
def wb_It_leave_15 (e0 mi : Nat) (Q : Wd → Prop) (x0 : Nat) (x1 : Int32) (w : Wd) : Prop :=
  bw_is w x0 2 ∧ (wp_It_forgetWay e0 mi x0 (sI w x0 6 x1) (fun w3 => Q w3))
set_option maxHeartbeats 4000000 in
set_option maxRecDepth 100000 in
theorem k_It_leave_15 {p : Program} {l : Launch} {e : Env} {s : State} {m : MethodId} {args : Array Value} {below : List Frame} {meth : Method} {c : Code} {D : va_G} {AC : Nat → ClassId} {e0 mi : Nat} {A : Nat → Prop} {mc ms : Nat} {Q : Wd → Prop} (C : Cx p l s m args meth c D AC e0 mi A n_It_leave b_It_leave 2 none) (x0 : Nat) (x1 : Int32) (w : Wd) (hq : wb_It_leave_15 e0 mi Q x0 x1 w) : ∀ (H : Heap) (locs : List Loc) (cells slots : Nat) (ls : Array Slot), HW D cls8 FTc AC A s.heap H locs w → lv_has ls 2 [(0, va_rf (some x0)), (1, .int x1)] → cells ≤ mc → slots ≤ ms → W p l e { frames := 1, cells := mc, slots := ms, locals := 21 } s m args below meth c H locs cells slots (vx_MQ below (QQ D AC A (fun v w9 => v = none ∧ Q w9)) (XX D AC A (fun _ _ => False)) args s mc ms A) (F0 m 15 ls []) := by
  obtain ⟨hl0, hx, hb, hr, ht, hown, hlocks, hnm, hml, hex, hK, hA, hZ, hV⟩ := id C
  intro H locs cells slots ls hW hl hc hs
  unfold wb_It_leave_15 at hq
  refine bw_aload_n hx hb d_It_leave_15 rfl (lv_at hl 0 rfl) ?_
  refine lv_iload_n hx hb d_It_leave_16 rfl (lv_at hl 1 rfl) ?_
  obtain ⟨t1, hq⟩ := hq
  refine bw_putI hx hb ht in_It y_It yk_It nm_It hown hK hW rfl t1 (by decide) rfl 6 (by decide) rfl (ht _ m_456) (fun _ h => h) (Or.inl rfl) rfl rfl d_It_leave_17 (fun H locs hW => ?_)
  refine bw_aload_n hx hb d_It_leave_20 rfl (lv_at hl 0 rfl) ?_
  refine bw_callV (As := []) (rest := []) C hW ci_It_forgetWay m_499 m_501 sel_It_forgetWay d_It_leave_21 rfl t1 (by decide) rfl rfl rfl hl.1 (by decide) ⟨Nat.le_of_ble_eq_true rfl, Nat.le_of_ble_eq_true rfl⟩ ⟨hc, hs⟩ (c_It_forgetWay hl0 _ _ hq) (fun _ _ _ _ _ _ h => h.elim) (fun v2 w3 H locs hv hW => ?_)
  obtain ⟨rfl, hq⟩ := hv
  refine W.eq (g2 := F0 m 24 ls []) rfl ?_
  exact bw_vret C hW ⟨rfl, hq⟩ d_It_leave_24 hc hs
def wp_It_leave (e0 mi : Nat) (x0 : Nat) (x1 : Int32) (w : Wd) (Q : Wd → Prop) : Prop :=
  bw_is w x0 2 ∧ (((wR w x0 3) = none → (wb_It_leave_15 e0 mi Q x0 x1 w)) ∧ (¬ (wR w x0 3) = none → (∃ a3 : Nat, (wR w x0 3) = some a3 ∧ (bw_is w a3 0 ∧ (wp_Bt_letGo e0 mi a3 (some x0) w (fun w6 => wb_It_leave_15 e0 mi Q x0 x1 w6))))))
set_option maxHeartbeats 4000000 in
set_option maxRecDepth 100000 in
theorem k_It_leave_0 {p : Program} {l : Launch} {e : Env} {s : State} {m : MethodId} {args : Array Value} {below : List Frame} {meth : Method} {c : Code} {D : va_G} {AC : Nat → ClassId} {e0 mi : Nat} {A : Nat → Prop} {mc ms : Nat} {Q : Wd → Prop} (C : Cx p l s m args meth c D AC e0 mi A n_It_leave b_It_leave 2 none) (x0 : Nat) (x1 : Int32) (w : Wd) (hq : wp_It_leave e0 mi x0 x1 w Q) : ∀ (H : Heap) (locs : List Loc) (cells slots : Nat) (ls : Array Slot), HW D cls8 FTc AC A s.heap H locs w → lv_has ls 2 [(0, va_rf (some x0)), (1, .int x1)] → cells ≤ mc → slots ≤ ms → W p l e { frames := 1, cells := mc, slots := ms, locals := 21 } s m args below meth c H locs cells slots (vx_MQ below (QQ D AC A (fun v w9 => v = none ∧ Q w9)) (XX D AC A (fun _ _ => False)) args s mc ms A) (F0 m 0 ls []) := by
  obtain ⟨hl0, hx, hb, hr, ht, hown, hlocks, hnm, hml, hex, hK, hA, hZ, hV⟩ := id C
  intro H locs cells slots ls hW hl hc hs
  unfold wp_It_leave at hq
  refine bw_aload_n hx hb d_It_leave_0 rfl (lv_at hl 0 rfl) ?_
  obtain ⟨t1, hq⟩ := hq
  refine bw_getR hx hb ht in_It hown hK hW rfl t1 (by decide) rfl 3 (by decide) rfl (ht _ m_449) (fun _ h => h) d_It_leave_1 ?_
  refine bw_ifnull (tgt := 15) hx hb d_It_leave_4 (by decide) (fun c2 => ?_) (fun c2 => ?_)
  · have hq := hq.1 c2
    exact k_It_leave_15 C  _ _ _ hq _ _ _ _ _ hW (lv_sub hl [0, 1] rfl) hc hs
  · have hq := hq.2 c2
    refine bw_aload_n hx hb d_It_leave_7 rfl (lv_at hl 0 rfl) ?_
    refine bw_getR hx hb ht in_It hown hK hW rfl t1 (by decide) rfl 3 (by decide) rfl (ht _ m_449) (fun _ h => h) d_It_leave_8 ?_
    refine bw_aload_n hx hb d_It_leave_11 rfl (lv_at hl 0 rfl) ?_
    obtain ⟨a3, ea3, hq⟩ := hq
    obtain ⟨t4, hq⟩ := hq
    refine bw_callV (As := [va_rf (some x0)]) (rest := []) C hW ci_Bt_letGo m_585 m_586 m_587 d_It_leave_12 ea3 t4 (by decide) rfl rfl rfl hl.1 (by decide) ⟨Nat.le_of_ble_eq_true rfl, Nat.le_of_ble_eq_true rfl⟩ ⟨hc, hs⟩ (c_Bt_letGo hl0 _ _ _ hq) (fun _ _ _ _ _ _ h => h.elim) (fun v5 w6 H locs hv hW => ?_)
    obtain ⟨rfl, hq⟩ := hv
    refine W.eq (g2 := F0 m 15 ls []) rfl ?_
    exact k_It_leave_15 C  _ _ _ hq _ _ _ _ _ hW (lv_sub hl [0, 1] rfl) hc hs
theorem ci_It_leave : CI n_It_leave b_It_leave 2 none 1 := ⟨m_584, m_21, by decide, by decide, by decide +kernel⟩
theorem c_It_leave {l : Launch} {D : va_G} {AC : Nat → ClassId} {e0 mi : Nat} {Q : Wd → Prop} (hl0 : l.stackTraces = false) (x0 : Nat) (x1 : Int32) (w : Wd) (hq : wp_It_leave e0 mi x0 x1 w Q) : Ct l D AC e0 mi n_It_leave (wy n_It_leave b_It_leave 2 none) 1 21 [va_rf (some x0), .int x1] w 0 0 (fun v w9 => v = none ∧ Q w9) (fun _ _ => False) :=
  Ct.of hl0 (by decide) (by simp [lg_sl, bw_cat, cat_i, cat_j]) (fun p e s m args below meth c A ls C hW hl => k_It_leave_0 C x0 x1 w hq s.heap [] 0 0 ls hW (by simpa [lv_args, bw_cat, cat_i, cat_j] using hl) (Nat.le_refl _) (Nat.le_refl _))
def wb_It_goOn_30 (e0 mi : Nat) (Q : Wd → Prop) (x0 : Nat) (x1 : Option Nat) (x2 : Int32) (z0 : Int32) (w : Wd) : Prop :=
  bw_is w x0 2 ∧ (∃ a2 : Nat, x1 = some a2 ∧ (bw_is w a2 0 ∧ (∀ i4 : Int32, i4 = (if z0 < ((wI w x0 7) + (wI w a2 2)) then z0 else ((wI w x0 7) + (wI w a2 2))) → (∀ i5 : Int32, i5 = (if (wI w x0 7) < i4 then i4 else (wI w x0 7)) → (∀ i6 : Int32, i6 = (if (wI (sI w x0 7 i5) a2 1) < ((wI (sI w x0 7 i5) x0 8) + (wI (sI w x0 7 i5) a2 2)) then (wI (sI w x0 7 i5) a2 1) else ((wI (sI w x0 7 i5) x0 8) + (wI (sI w x0 7 i5) a2 2))) → (Q (sI (sI w x0 7 i5) x0 8 i6)))))))
set_option maxHeartbeats 4000000 in
set_option maxRecDepth 100000 in
theorem k_It_goOn_30 {p : Program} {l : Launch} {e : Env} {s : State} {m : MethodId} {args : Array Value} {below : List Frame} {meth : Method} {c : Code} {D : va_G} {AC : Nat → ClassId} {e0 mi : Nat} {A : Nat → Prop} {mc ms : Nat} {Q : Wd → Prop} (C : Cx p l s m args meth c D AC e0 mi A n_It_goOn b_It_goOn 4 none) (x0 : Nat) (x1 : Option Nat) (x2 : Int32) (z0 : Int32) (w : Wd) (hq : wb_It_goOn_30 e0 mi Q x0 x1 x2 z0 w) : ∀ (H : Heap) (locs : List Loc) (cells slots : Nat) (ls : Array Slot), HW D cls8 FTc AC A s.heap H locs w → lv_has ls 4 [(0, va_rf (some x0)), (1, va_rf x1), (2, .int x2)] → cells ≤ mc → slots ≤ ms → W p l e { frames := 1, cells := mc, slots := ms, locals := 40 } s m args below meth c H locs cells slots (vx_MQ below (QQ D AC A (fun v w9 => v = none ∧ Q w9)) (XX D AC A (fun _ _ => False)) args s mc ms A) (F0 m 30 ls [.int z0]) := by
  obtain ⟨hl0, hx, hb, hr, ht, hown, hlocks, hnm, hml, hex, hK, hA, hZ, hV⟩ := id C
  intro H locs cells slots ls hW hl hc hs
  unfold wb_It_goOn_30 at hq
  refine lv_istore_n (i := 3) (lv' := [(3, .int z0), (0, va_rf (some x0)), (1, va_rf x1), (2, .int x2)]) hx hb d_It_goOn_30 rfl hl (by decide) (by simp [bw_cat, cat_i, cat_j]) (fun ls hl => ?_)
  refine bw_aload_n hx hb d_It_goOn_31 rfl (lv_at hl 1 rfl) ?_
  refine bw_aload_n hx hb d_It_goOn_32 rfl (lv_at hl 1 rfl) ?_
  obtain ⟨t1, hq⟩ := hq
  refine bw_getI hx hb ht in_It hown hK hW rfl t1 (by decide) rfl 7 (by decide) rfl (ht _ m_458) (fun _ h => h) d_It_goOn_33 ?_
  refine bw_aload_n hx hb d_It_goOn_36 rfl (lv_at hl 1 rfl) ?_
  refine bw_getI hx hb ht in_It hown hK hW rfl t1 (by decide) rfl 7 (by decide) rfl (ht _ m_458) (fun _ h => h) d_It_goOn_37 ?_
  refine bw_aload_n hx hb d_It_goOn_40 rfl (lv_at hl 2 rfl) ?_
  obtain ⟨a2, ea2, hq⟩ := hq
  obtain ⟨t3, hq⟩ := hq
  refine bw_getI hx hb ht in_Bt hown hK hW ea2 t3 (by decide) rfl 2 (by decide) rfl (ht _ m_244) (fun _ h => h) d_It_goOn_41 ?_
  refine lv_iadd hx hb d_It_goOn_44 ?_
  refine lv_iload_n hx hb d_It_goOn_45 rfl (lv_at hl 0 rfl) ?_
  refine va_mmin hx hb (by rw [hml]; exact hl.1.symm) hown (ht _ m_639) (ht _ m_327) (ht _ m_14) (ht _ m_328) (Nat.le_of_ble_eq_true rfl) (by simp [bw_cat, cat_i, cat_j]) hc hs d_It_goOn_46 ?_
  refine lv_topi (fun i4 ei4 => ?_)
  have hq := hq i4 ei4
  refine va_mmax hx hb (by rw [hml]; exact hl.1.symm) hown (ht _ m_640) (ht _ m_294) (ht _ m_14) (ht _ m_295) (Nat.le_of_ble_eq_true rfl) (by simp [bw_cat, cat_i, cat_j]) hc hs d_It_goOn_49 ?_
  refine lv_topi (fun i5 ei5 => ?_)
  have hq := hq i5 ei5
  refine bw_putI hx hb ht in_It y_It yk_It nm_It hown hK hW rfl t1 (by decide) rfl 7 (by decide) rfl (ht _ m_458) (fun _ h => h) (Or.inl rfl) rfl rfl d_It_goOn_52 (fun H locs hW => ?_)
  refine bw_aload_n hx hb d_It_goOn_55 rfl (lv_at hl 1 rfl) ?_
  refine bw_aload_n hx hb d_It_goOn_56 rfl (lv_at hl 1 rfl) ?_
  refine bw_getI hx hb ht in_It hown hK hW rfl t1 (by decide) rfl 8 (by decide) rfl (ht _ m_461) (fun _ h => h) d_It_goOn_57 ?_
  refine bw_aload_n hx hb d_It_goOn_60 rfl (lv_at hl 2 rfl) ?_
  refine bw_getI hx hb ht in_Bt hown hK hW ea2 t3 (by decide) rfl 2 (by decide) rfl (ht _ m_244) (fun _ h => h) d_It_goOn_61 ?_
  refine lv_iadd hx hb d_It_goOn_64 ?_
  refine bw_aload_n hx hb d_It_goOn_65 rfl (lv_at hl 2 rfl) ?_
  refine bw_getI hx hb ht in_Bt hown hK hW ea2 t3 (by decide) rfl 1 (by decide) rfl (ht _ m_240) (fun _ h => h) d_It_goOn_66 ?_
  refine va_mmin hx hb (by rw [hml]; exact hl.1.symm) hown (ht _ m_639) (ht _ m_327) (ht _ m_14) (ht _ m_328) (Nat.le_of_ble_eq_true rfl) (by simp [bw_cat, cat_i, cat_j]) hc hs d_It_goOn_69 ?_
  refine lv_topi (fun i6 ei6 => ?_)
  have hq := hq i6 ei6
  refine bw_putI hx hb ht in_It y_It yk_It nm_It hown hK hW rfl t1 (by decide) rfl 8 (by decide) rfl (ht _ m_461) (fun _ h => h) (Or.inl rfl) rfl rfl d_It_goOn_72 (fun H locs hW => ?_)
  exact bw_vret C hW ⟨rfl, hq⟩ d_It_goOn_75 hc hs
def wp_It_goOn (e0 mi : Nat) (x0 : Nat) (x1 : Option Nat) (x2 : Int32) (w : Wd) (Q : Wd → Prop) : Prop :=
  bw_is w x0 2 ∧ ((¬ (wR w x0 4) = none → (∃ a3 : Nat, x1 = some a3 ∧ (bw_is w a3 0 ∧ (∃ a5 : Nat, (wR w x0 4) = some a5 ∧ (bw_is w a5 2 ∧ (wp_It_rear e0 mi a5 w (fun i13 w8 => ∀ i14 : Int32, i14 = (if (i13 - x2) < (wI w a3 1) then (i13 - x2) else (wI w a3 1)) → (wb_It_goOn_30 e0 mi Q x0 x1 x2 i14 w8)))))))) ∧ ((wR w x0 4) = none → (∃ a15 : Nat, x1 = some a15 ∧ (bw_is w a15 0 ∧ (wb_It_goOn_30 e0 mi Q x0 x1 x2 (wI w a15 1) w)))))
set_option maxHeartbeats 4000000 in
set_option maxRecDepth 100000 in
theorem k_It_goOn_0 {p : Program} {l : Launch} {e : Env} {s : State} {m : MethodId} {args : Array Value} {below : List Frame} {meth : Method} {c : Code} {D : va_G} {AC : Nat → ClassId} {e0 mi : Nat} {A : Nat → Prop} {mc ms : Nat} {Q : Wd → Prop} (C : Cx p l s m args meth c D AC e0 mi A n_It_goOn b_It_goOn 4 none) (x0 : Nat) (x1 : Option Nat) (x2 : Int32) (w : Wd) (hq : wp_It_goOn e0 mi x0 x1 x2 w Q) : ∀ (H : Heap) (locs : List Loc) (cells slots : Nat) (ls : Array Slot), HW D cls8 FTc AC A s.heap H locs w → lv_has ls 4 [(0, va_rf (some x0)), (1, va_rf x1), (2, .int x2)] → cells ≤ mc → slots ≤ ms → W p l e { frames := 1, cells := mc, slots := ms, locals := 40 } s m args below meth c H locs cells slots (vx_MQ below (QQ D AC A (fun v w9 => v = none ∧ Q w9)) (XX D AC A (fun _ _ => False)) args s mc ms A) (F0 m 0 ls []) := by
  obtain ⟨hl0, hx, hb, hr, ht, hown, hlocks, hnm, hml, hex, hK, hA, hZ, hV⟩ := id C
  intro H locs cells slots ls hW hl hc hs
  unfold wp_It_goOn at hq
  refine bw_aload_n hx hb d_It_goOn_0 rfl (lv_at hl 0 rfl) ?_
  obtain ⟨t1, hq⟩ := hq
  refine bw_getR hx hb ht in_It hown hK hW rfl t1 (by decide) rfl 4 (by decide) rfl (ht _ m_451) (fun _ h => h) d_It_goOn_1 ?_
  refine bw_ifnonnull (tgt := 14) hx hb d_It_goOn_4 (by decide) (fun c2 => ?_) (fun c2 => ?_)
  · have hq := hq.1 c2
    refine bw_aload_n hx hb d_It_goOn_14 rfl (lv_at hl 1 rfl) ?_
    obtain ⟨a3, ea3, hq⟩ := hq
    obtain ⟨t4, hq⟩ := hq
    refine bw_getI hx hb ht in_Bt hown hK hW ea3 t4 (by decide) rfl 1 (by decide) rfl (ht _ m_240) (fun _ h => h) d_It_goOn_15 ?_
    refine bw_aload_n hx hb d_It_goOn_18 rfl (lv_at hl 0 rfl) ?_
    refine bw_getR hx hb ht in_It hown hK hW rfl t1 (by decide) rfl 4 (by decide) rfl (ht _ m_451) (fun _ h => h) d_It_goOn_19 ?_
    obtain ⟨a5, ea5, hq⟩ := hq
    obtain ⟨t6, hq⟩ := hq
    refine bw_callV (As := []) (rest := [.int (wI w a3 1)]) C hW ci_It_rear m_638 m_433 m_434 d_It_goOn_22 ea5 t6 (by decide) rfl rfl rfl hl.1 (by simp [bw_cat, cat_i, cat_j]) ⟨Nat.le_of_ble_eq_true rfl, Nat.le_of_ble_eq_true rfl⟩ ⟨hc, hs⟩ (c_It_rear hl0 _ _ hq) (fun _ _ _ _ _ _ h => h.elim) (fun v7 w8 H locs hv hW => ?_)
    obtain ⟨i13, rfl, hq⟩ := hv
    refine W.eq (g2 := F0 m 25 ls [.int i13, .int (wI w a3 1)]) rfl ?_
    refine lv_iload_n hx hb d_It_goOn_25 rfl (lv_at hl 2 rfl) ?_
    refine lv_isub hx hb d_It_goOn_26 ?_
    refine va_mmin hx hb (by rw [hml]; exact hl.1.symm) hown (ht _ m_639) (ht _ m_327) (ht _ m_14) (ht _ m_328) (Nat.le_of_ble_eq_true rfl) (by exact Nat.le_of_ble_eq_true rfl) hc hs d_It_goOn_27 ?_
    refine lv_topi (fun i14 ei14 => ?_)
    have hq := hq i14 ei14
    exact k_It_goOn_30 C  _ _ _ _ _ hq _ _ _ _ _ hW (lv_sub hl [0, 1, 2] rfl) hc hs
  · have hq := hq.2 c2
    refine bw_aload_n hx hb d_It_goOn_7 rfl (lv_at hl 1 rfl) ?_
    obtain ⟨a15, ea15, hq⟩ := hq
    obtain ⟨t16, hq⟩ := hq
    refine bw_getI hx hb ht in_Bt hown hK hW ea15 t16 (by decide) rfl 1 (by decide) rfl (ht _ m_240) (fun _ h => h) d_It_goOn_8 ?_
    refine lv_goto (tgt := 30) hx hb d_It_goOn_11 (by decide) ?_
    exact k_It_goOn_30 C  _ _ _ _ _ hq _ _ _ _ _ hW (lv_sub hl [0, 1, 2] rfl) hc hs
theorem ci_It_goOn : CI n_It_goOn b_It_goOn 4 none 2 := ⟨m_637, m_21, by decide, by decide, by decide +kernel⟩
theorem c_It_goOn {l : Launch} {D : va_G} {AC : Nat → ClassId} {e0 mi : Nat} {Q : Wd → Prop} (hl0 : l.stackTraces = false) (x0 : Nat) (x1 : Option Nat) (x2 : Int32) (w : Wd) (hq : wp_It_goOn e0 mi x0 x1 x2 w Q) : Ct l D AC e0 mi n_It_goOn (wy n_It_goOn b_It_goOn 4 none) 1 40 [va_rf (some x0), va_rf x1, .int x2] w 0 0 (fun v w9 => v = none ∧ Q w9) (fun _ _ => False) :=
  Ct.of hl0 (by decide) (by simp [lg_sl, bw_cat, cat_i, cat_j]) (fun p e s m args below meth c A ls C hW hl => k_It_goOn_0 C x0 x1 x2 w hq s.heap [] 0 0 ls hW (by simpa [lv_args, bw_cat, cat_i, cat_j] using hl) (Nat.le_refl _) (Nat.le_refl _))
end
section
/-! printed by wip/gen/walk.py out of the bytecode: Bc_init Bl_init Al_init Al_size Al_elementData Pr_checkIndex Ob_checkIndex Al_get Au_hugeLength Au_newLength As_copyOf2 As_copyOf Al_grow2 Al_grow Al_add2 Al_add Al_set Al_fastRemove Al_remove -/
def wp_Bc_init (e0 mi : Nat) (x0 : Nat) (w : Wd) (Q : Wd → Prop) : Prop :=
  Q w
set_option maxHeartbeats 4000000 in
set_option maxRecDepth 100000 in
theorem k_Bc_init_0 {p : Program} {l : Launch} {e : Env} {s : State} {m : MethodId} {args : Array Value} {below : List Frame} {meth : Method} {c : Code} {D : va_G} {AC : Nat → ClassId} {e0 mi : Nat} {A : Nat → Prop} {mc ms : Nat} {Q : Wd → Prop} (C : Cx p l s m args meth c D AC e0 mi A n_Bc_init b_Bc_init 1 none) (x0 : Nat) (w : Wd) (hq : wp_Bc_init e0 mi x0 w Q) : ∀ (H : Heap) (locs : List Loc) (cells slots : Nat) (ls : Array Slot), HW D cls8 FTc AC A s.heap H locs w → lv_has ls 1 [(0, va_rf (some x0))] → cells ≤ mc → slots ≤ ms → W p l e { frames := 1, cells := mc, slots := ms, locals := 40 } s m args below meth c H locs cells slots (vx_MQ below (QQ D AC A (fun v w9 => v = none ∧ Q w9)) (XX D AC A (fun _ _ => False)) args s mc ms A) (F0 m 0 ls []) := by
  obtain ⟨hl0, hx, hb, hr, ht, hown, hlocks, hnm, hml, hex, hK, hA, hZ, hV⟩ := id C
  intro H locs cells slots ls hW hl hc hs
  unfold wp_Bc_init at hq
  refine bw_aload_n hx hb d_Bc_init_0 rfl (lv_at hl 0 rfl) ?_
  refine W.objInit hx hb hown (ht _ m_44) (ht _ m_31) (ht _ m_32) rfl (by rw [hml]; exact hl.1) rfl d_Bc_init_1 (Nat.le_of_ble_eq_true rfl) (Nat.le_of_ble_eq_true rfl) ?_
  refine W.eq (g2 := F0 m 4 ls []) rfl ?_
  exact bw_vret C hW ⟨rfl, hq⟩ d_Bc_init_4 hc hs
theorem ci_Bc_init : CI n_Bc_init b_Bc_init 1 none 0 := ⟨m_43, m_2, by decide, by decide, by decide +kernel⟩
theorem c_Bc_init {l : Launch} {D : va_G} {AC : Nat → ClassId} {e0 mi : Nat} {Q : Wd → Prop} (hl0 : l.stackTraces = false) (x0 : Nat) (w : Wd) (hq : wp_Bc_init e0 mi x0 w Q) : Ct l D AC e0 mi n_Bc_init (wy n_Bc_init b_Bc_init 1 none) 1 40 [va_rf (some x0)] w 0 0 (fun v w9 => v = none ∧ Q w9) (fun _ _ => False) :=
  Ct.of hl0 (by decide) (by simp [lg_sl, bw_cat, cat_i, cat_j]) (fun p e s m args below meth c A ls C hW hl => k_Bc_init_0 C x0 w hq s.heap [] 0 0 ls hW (by simpa [lv_args, bw_cat, cat_i, cat_j] using hl) (Nat.le_refl _) (Nat.le_refl _))
def wp_Bl_init (e0 mi : Nat) (x0 : Nat) (w : Wd) (Q : Wd → Prop) : Prop :=
  wp_Bc_init e0 mi x0 w (fun w2 => bw_is w2 x0 7 ∧ (Q (sI w2 x0 0 (0 : Int32))))
set_option maxHeartbeats 4000000 in
set_option maxRecDepth 100000 in
theorem k_Bl_init_0 {p : Program} {l : Launch} {e : Env} {s : State} {m : MethodId} {args : Array Value} {below : List Frame} {meth : Method} {c : Code} {D : va_G} {AC : Nat → ClassId} {e0 mi : Nat} {A : Nat → Prop} {mc ms : Nat} {Q : Wd → Prop} (C : Cx p l s m args meth c D AC e0 mi A n_Bl_init b_Bl_init 1 none) (x0 : Nat) (w : Wd) (hq : wp_Bl_init e0 mi x0 w Q) : ∀ (H : Heap) (locs : List Loc) (cells slots : Nat) (ls : Array Slot), HW D cls8 FTc AC A s.heap H locs w → lv_has ls 1 [(0, va_rf (some x0))] → cells ≤ mc → slots ≤ ms → W p l e { frames := 2, cells := mc, slots := ms, locals := 60 } s m args below meth c H locs cells slots (vx_MQ below (QQ D AC A (fun v w9 => v = none ∧ Q w9)) (XX D AC A (fun _ _ => False)) args s mc ms A) (F0 m 0 ls []) := by
  obtain ⟨hl0, hx, hb, hr, ht, hown, hlocks, hnm, hml, hex, hK, hA, hZ, hV⟩ := id C
  intro H locs cells slots ls hW hl hc hs
  unfold wp_Bl_init at hq
  refine bw_aload_n hx hb d_Bl_init_0 rfl (lv_at hl 0 rfl) ?_
  refine bw_callI (As := []) (rest := []) C hW ci_Bc_init rfl m_41 m_42 d_Bl_init_1 rfl rfl hl.1 (by decide) ⟨Nat.le_of_ble_eq_true rfl, Nat.le_of_ble_eq_true rfl⟩ ⟨hc, hs⟩ (c_Bc_init hl0 _ _ hq) (fun v1 w2 H locs hv hW => ?_)
  obtain ⟨rfl, hq⟩ := hv
  refine W.eq (g2 := F0 m 4 ls []) rfl ?_
  refine bw_aload_n hx hb d_Bl_init_4 rfl (lv_at hl 0 rfl) ?_
  refine lv_iconst (v := 0) hx hb d_Bl_init_5 (by decide) ?_
  obtain ⟨t8, hq⟩ := hq
  refine bw_putI hx hb ht in_Al y_Al yk_Al nm_Al hown hK hW rfl t8 (by decide) rfl 0 (by decide) rfl (ht _ m_49) (fun _ h => h) (Or.inl rfl) rfl rfl d_Bl_init_6 (fun H locs hW => ?_)
  exact bw_vret C hW ⟨rfl, hq⟩ d_Bl_init_9 hc hs
theorem ci_Bl_init : CI n_Bl_init b_Bl_init 1 none 0 := ⟨m_40, m_3, by decide, by decide, by decide +kernel⟩
theorem c_Bl_init {l : Launch} {D : va_G} {AC : Nat → ClassId} {e0 mi : Nat} {Q : Wd → Prop} (hl0 : l.stackTraces = false) (x0 : Nat) (w : Wd) (hq : wp_Bl_init e0 mi x0 w Q) : Ct l D AC e0 mi n_Bl_init (wy n_Bl_init b_Bl_init 1 none) 2 60 [va_rf (some x0)] w 0 0 (fun v w9 => v = none ∧ Q w9) (fun _ _ => False) :=
  Ct.of hl0 (by decide) (by simp [lg_sl, bw_cat, cat_i, cat_j]) (fun p e s m args below meth c A ls C hW hl => k_Bl_init_0 C x0 w hq s.heap [] 0 0 ls hW (by simpa [lv_args, bw_cat, cat_i, cat_j] using hl) (Nat.le_refl _) (Nat.le_refl _))
def wp_Al_init (e0 mi : Nat) (x0 : Nat) (w : Wd) (Q : Wd → Prop) : Prop :=
  wp_Bl_init e0 mi x0 w (fun w2 => bw_is w2 x0 7 ∧ (Q (sR w2 x0 1 (some e0))))
set_option maxHeartbeats 4000000 in
set_option maxRecDepth 100000 in
theorem k_Al_init_0 {p : Program} {l : Launch} {e : Env} {s : State} {m : MethodId} {args : Array Value} {below : List Frame} {meth : Method} {c : Code} {D : va_G} {AC : Nat → ClassId} {e0 mi : Nat} {A : Nat → Prop} {mc ms : Nat} {Q : Wd → Prop} (C : Cx p l s m args meth c D AC e0 mi A n_Al_init b_Al_init 1 none) (x0 : Nat) (w : Wd) (hq : wp_Al_init e0 mi x0 w Q) : ∀ (H : Heap) (locs : List Loc) (cells slots : Nat) (ls : Array Slot), HW D cls8 FTc AC A s.heap H locs w → lv_has ls 1 [(0, va_rf (some x0))] → cells ≤ mc → slots ≤ ms → W p l e { frames := 3, cells := mc, slots := ms, locals := 80 } s m args below meth c H locs cells slots (vx_MQ below (QQ D AC A (fun v w9 => v = none ∧ Q w9)) (XX D AC A (fun _ _ => False)) args s mc ms A) (F0 m 0 ls []) := by
  obtain ⟨hl0, hx, hb, hr, ht, hown, hlocks, hnm, hml, hex, hK, hA, hZ, hV⟩ := id C
  intro H locs cells slots ls hW hl hc hs
  unfold wp_Al_init at hq
  refine bw_aload_n hx hb d_Al_init_0 rfl (lv_at hl 0 rfl) ?_
  refine bw_callI (As := []) (rest := []) C hW ci_Bl_init rfl m_38 m_39 d_Al_init_1 rfl rfl hl.1 (by decide) ⟨Nat.le_of_ble_eq_true rfl, Nat.le_of_ble_eq_true rfl⟩ ⟨hc, hs⟩ (c_Bl_init hl0 _ _ hq) (fun v1 w2 H locs hv hW => ?_)
  obtain ⟨rfl, hq⟩ := hv
  refine W.eq (g2 := F0 m 4 ls []) rfl ?_
  refine bw_aload_n hx hb d_Al_init_4 rfl (lv_at hl 0 rfl) ?_
  refine va_gets hx hb hZ.2.2.1 hW.2.2 hown (ht _ m_45) (fun _ h => h) d_Al_init_5 ?_
  refine W.eq (g2 := F0 m 8 ls [va_rf (some e0), va_rf (some x0)]) rfl ?_
  obtain ⟨t8, hq⟩ := hq
  refine bw_putR hx hb ht in_Al y_Al yk_Al nm_Al hown hK hW rfl t8 (by decide) rfl 1 (by decide) rfl (ht _ m_47) (fun _ h => h) (Or.inl rfl) (bw_nra _ _) (bw_fra _ _) d_Al_init_8 (fun H locs hW => ?_)
  exact bw_vret C hW ⟨rfl, hq⟩ d_Al_init_11 hc hs
theorem ci_Al_init : CI n_Al_init b_Al_init 1 none 0 := ⟨m_37, m_4, by decide, by decide, by decide +kernel⟩
theorem c_Al_init {l : Launch} {D : va_G} {AC : Nat → ClassId} {e0 mi : Nat} {Q : Wd → Prop} (hl0 : l.stackTraces = false) (x0 : Nat) (w : Wd) (hq : wp_Al_init e0 mi x0 w Q) : Ct l D AC e0 mi n_Al_init (wy n_Al_init b_Al_init 1 none) 3 80 [va_rf (some x0)] w 0 0 (fun v w9 => v = none ∧ Q w9) (fun _ _ => False) :=
  Ct.of hl0 (by decide) (by simp [lg_sl, bw_cat, cat_i, cat_j]) (fun p e s m args below meth c A ls C hW hl => k_Al_init_0 C x0 w hq s.heap [] 0 0 ls hW (by simpa [lv_args, bw_cat, cat_i, cat_j] using hl) (Nat.le_refl _) (Nat.le_refl _))
def wp_Al_size (e0 mi : Nat) (x0 : Nat) (w : Wd) (Q : Int32 → Wd → Prop) : Prop :=
  bw_is w x0 7 ∧ (Q (wI w x0 2) w)
set_option maxHeartbeats 4000000 in
set_option maxRecDepth 100000 in
theorem k_Al_size_0 {p : Program} {l : Launch} {e : Env} {s : State} {m : MethodId} {args : Array Value} {below : List Frame} {meth : Method} {c : Code} {D : va_G} {AC : Nat → ClassId} {e0 mi : Nat} {A : Nat → Prop} {mc ms : Nat} {Q : Int32 → Wd → Prop} (C : Cx p l s m args meth c D AC e0 mi A n_Al_size b_Al_size 1 (some .int)) (x0 : Nat) (w : Wd) (hq : wp_Al_size e0 mi x0 w Q) : ∀ (H : Heap) (locs : List Loc) (cells slots : Nat) (ls : Array Slot), HW D cls8 FTc AC A s.heap H locs w → lv_has ls 1 [(0, va_rf (some x0))] → cells ≤ mc → slots ≤ ms → W p l e { frames := 0, cells := mc, slots := ms, locals := 0 } s m args below meth c H locs cells slots (vx_MQ below (QQ D AC A (fun v w9 => ∃ r9 : Int32, v = some (.int r9) ∧ Q r9 w9)) (XX D AC A (fun _ _ => False)) args s mc ms A) (F0 m 0 ls []) := by
  obtain ⟨hl0, hx, hb, hr, ht, hown, hlocks, hnm, hml, hex, hK, hA, hZ, hV⟩ := id C
  intro H locs cells slots ls hW hl hc hs
  unfold wp_Al_size at hq
  refine bw_aload_n hx hb d_Al_size_0 rfl (lv_at hl 0 rfl) ?_
  obtain ⟨t1, hq⟩ := hq
  refine bw_getI hx hb ht in_Al hown hK hW rfl t1 (by decide) rfl 2 (by decide) rfl (ht _ m_48) (fun _ h => h) d_Al_size_1 ?_
  exact bw_iret C hW ⟨_, rfl, hq⟩ d_Al_size_4 hc hs
theorem ci_Al_size : CI n_Al_size b_Al_size 1 (some .int) 0 := ⟨m_94, m_4, by decide, by decide, by decide +kernel⟩
theorem c_Al_size {l : Launch} {D : va_G} {AC : Nat → ClassId} {e0 mi : Nat} {Q : Int32 → Wd → Prop} (hl0 : l.stackTraces = false) (x0 : Nat) (w : Wd) (hq : wp_Al_size e0 mi x0 w Q) : Ct l D AC e0 mi n_Al_size (wy n_Al_size b_Al_size 1 (some .int)) 0 0 [va_rf (some x0)] w 0 0 (fun v w9 => ∃ r9 : Int32, v = some (.int r9) ∧ Q r9 w9) (fun _ _ => False) :=
  Ct.of hl0 (by decide) (by simp [lg_sl, bw_cat, cat_i, cat_j]) (fun p e s m args below meth c A ls C hW hl => k_Al_size_0 C x0 w hq s.heap [] 0 0 ls hW (by simpa [lv_args, bw_cat, cat_i, cat_j] using hl) (Nat.le_refl _) (Nat.le_refl _))
def wp_Al_elementData (e0 mi : Nat) (x0 : Nat) (x1 : Int32) (w : Wd) (Q : Option Nat → Wd → Prop) : Prop :=
  bw_is w x0 7 ∧ (∃ a2 : Nat, (wR w x0 1) = some a2 ∧ (bw_is w a2 100 ∧ (vp_in x1 (wN w a2) ∧ (Q (wR w a2 x1.toNatClampNeg) w))))
set_option maxHeartbeats 4000000 in
set_option maxRecDepth 100000 in
theorem k_Al_elementData_0 {p : Program} {l : Launch} {e : Env} {s : State} {m : MethodId} {args : Array Value} {below : List Frame} {meth : Method} {c : Code} {D : va_G} {AC : Nat → ClassId} {e0 mi : Nat} {A : Nat → Prop} {mc ms : Nat} {Q : Option Nat → Wd → Prop} (C : Cx p l s m args meth c D AC e0 mi A n_Al_elementData b_Al_elementData 2 (some (.object "java/lang/Object"))) (x0 : Nat) (x1 : Int32) (w : Wd) (hq : wp_Al_elementData e0 mi x0 x1 w Q) : ∀ (H : Heap) (locs : List Loc) (cells slots : Nat) (ls : Array Slot), HW D cls8 FTc AC A s.heap H locs w → lv_has ls 2 [(0, va_rf (some x0)), (1, .int x1)] → cells ≤ mc → slots ≤ ms → W p l e { frames := 0, cells := mc, slots := ms, locals := 0 } s m args below meth c H locs cells slots (vx_MQ below (QQ D AC A (fun v w9 => ∃ r9 : Option Nat, v = some (va_rf r9) ∧ Q r9 w9)) (XX D AC A (fun _ _ => False)) args s mc ms A) (F0 m 0 ls []) := by
  obtain ⟨hl0, hx, hb, hr, ht, hown, hlocks, hnm, hml, hex, hK, hA, hZ, hV⟩ := id C
  intro H locs cells slots ls hW hl hc hs
  unfold wp_Al_elementData at hq
  refine bw_aload_n hx hb d_Al_elementData_0 rfl (lv_at hl 0 rfl) ?_
  obtain ⟨t1, hq⟩ := hq
  refine bw_getR hx hb ht in_Al hown hK hW rfl t1 (by decide) rfl 1 (by decide) rfl (ht _ m_47) (fun _ h => h) d_Al_elementData_1 ?_
  refine lv_iload_n hx hb d_Al_elementData_4 rfl (lv_at hl 1 rfl) ?_
  obtain ⟨a2, ea2, hq⟩ := hq
  obtain ⟨t3, hq⟩ := hq
  obtain ⟨h4, hq⟩ := hq
  refine bw_aald C hW ea2 t3 h4 d_Al_elementData_5 ?_
  exact bw_aret C (Or.inl ⟨_, rfl⟩) hW ⟨_, rfl, hq⟩ d_Al_elementData_6 hc hs
theorem ci_Al_elementData : CI n_Al_elementData b_Al_elementData 2 (some (.object "java/lang/Object")) 1 := ⟨m_112, m_4, by decide, by decide, by decide +kernel⟩
theorem c_Al_elementData {l : Launch} {D : va_G} {AC : Nat → ClassId} {e0 mi : Nat} {Q : Option Nat → Wd → Prop} (hl0 : l.stackTraces = false) (x0 : Nat) (x1 : Int32) (w : Wd) (hq : wp_Al_elementData e0 mi x0 x1 w Q) : Ct l D AC e0 mi n_Al_elementData (wy n_Al_elementData b_Al_elementData 2 (some (.object "java/lang/Object"))) 0 0 [va_rf (some x0), .int x1] w 0 0 (fun v w9 => ∃ r9 : Option Nat, v = some (va_rf r9) ∧ Q r9 w9) (fun _ _ => False) :=
  Ct.of hl0 (by decide) (by simp [lg_sl, bw_cat, cat_i, cat_j]) (fun p e s m args below meth c A ls C hW hl => k_Al_elementData_0 C x0 x1 w hq s.heap [] 0 0 ls hW (by simpa [lv_args, bw_cat, cat_i, cat_j] using hl) (Nat.le_refl _) (Nat.le_refl _))
def wb_Pr_checkIndex_9 (e0 mi : Nat) (Q : Int32 → Wd → Prop) (x0 : Int32) (x1 : Int32) (x2 : Option Nat) (w : Wd) : Prop :=
  False
set_option maxHeartbeats 4000000 in
set_option maxRecDepth 100000 in
theorem k_Pr_checkIndex_9 {p : Program} {l : Launch} {e : Env} {s : State} {m : MethodId} {args : Array Value} {below : List Frame} {meth : Method} {c : Code} {D : va_G} {AC : Nat → ClassId} {e0 mi : Nat} {A : Nat → Prop} {mc ms : Nat} {Q : Int32 → Wd → Prop} (C : Cx p l s m args meth c D AC e0 mi A n_Pr_checkIndex b_Pr_checkIndex 3 (some .int)) (x0 : Int32) (x1 : Int32) (x2 : Option Nat) (w : Wd) (hq : wb_Pr_checkIndex_9 e0 mi Q x0 x1 x2 w) : ∀ (H : Heap) (locs : List Loc) (cells slots : Nat) (ls : Array Slot), HW D cls8 FTc AC A s.heap H locs w → lv_has ls 3 [(0, .int x0), (1, .int x1), (2, va_rf x2)] → cells ≤ mc → slots ≤ ms → W p l e { frames := 0, cells := mc, slots := ms, locals := 0 } s m args below meth c H locs cells slots (vx_MQ below (QQ D AC A (fun v w9 => ∃ r9 : Int32, v = some (.int r9) ∧ Q r9 w9)) (XX D AC A (fun _ _ => False)) args s mc ms A) (F0 m 9 ls []) := by
  obtain ⟨hl0, hx, hb, hr, ht, hown, hlocks, hnm, hml, hex, hK, hA, hZ, hV⟩ := id C
  intro H locs cells slots ls hW hl hc hs
  unfold wb_Pr_checkIndex_9 at hq
  refine bw_aload_n hx hb d_Pr_checkIndex_9 rfl (lv_at hl 2 rfl) ?_
  refine lv_iload_n hx hb d_Pr_checkIndex_10 rfl (lv_at hl 0 rfl) ?_
  refine lv_iload_n hx hb d_Pr_checkIndex_11 rfl (lv_at hl 1 rfl) ?_
  exact hq.elim
def wp_Pr_checkIndex (e0 mi : Nat) (x0 : Int32) (x1 : Int32) (x2 : Option Nat) (w : Wd) (Q : Int32 → Wd → Prop) : Prop :=
  (x0 < 0 → (wb_Pr_checkIndex_9 e0 mi Q x0 x1 x2 w)) ∧ (¬ x0 < 0 → ((x0 < x1 → (Q x0 w)) ∧ (¬ x0 < x1 → (wb_Pr_checkIndex_9 e0 mi Q x0 x1 x2 w))))
set_option maxHeartbeats 4000000 in
set_option maxRecDepth 100000 in
theorem k_Pr_checkIndex_0 {p : Program} {l : Launch} {e : Env} {s : State} {m : MethodId} {args : Array Value} {below : List Frame} {meth : Method} {c : Code} {D : va_G} {AC : Nat → ClassId} {e0 mi : Nat} {A : Nat → Prop} {mc ms : Nat} {Q : Int32 → Wd → Prop} (C : Cx p l s m args meth c D AC e0 mi A n_Pr_checkIndex b_Pr_checkIndex 3 (some .int)) (x0 : Int32) (x1 : Int32) (x2 : Option Nat) (w : Wd) (hq : wp_Pr_checkIndex e0 mi x0 x1 x2 w Q) : ∀ (H : Heap) (locs : List Loc) (cells slots : Nat) (ls : Array Slot), HW D cls8 FTc AC A s.heap H locs w → lv_has ls 3 [(0, .int x0), (1, .int x1), (2, va_rf x2)] → cells ≤ mc → slots ≤ ms → W p l e { frames := 0, cells := mc, slots := ms, locals := 0 } s m args below meth c H locs cells slots (vx_MQ below (QQ D AC A (fun v w9 => ∃ r9 : Int32, v = some (.int r9) ∧ Q r9 w9)) (XX D AC A (fun _ _ => False)) args s mc ms A) (F0 m 0 ls []) := by
  obtain ⟨hl0, hx, hb, hr, ht, hown, hlocks, hnm, hml, hex, hK, hA, hZ, hV⟩ := id C
  intro H locs cells slots ls hW hl hc hs
  unfold wp_Pr_checkIndex at hq
  refine lv_iload_n hx hb d_Pr_checkIndex_0 rfl (lv_at hl 0 rfl) ?_
  refine lv_if_lt (tgt := 9) hx hb d_Pr_checkIndex_1 (by decide) (fun c1 => ?_) (fun c1 => ?_)
  · have hq := hq.1 c1
    exact k_Pr_checkIndex_9 C  _ _ _ _ hq _ _ _ _ _ hW (lv_sub hl [0, 1, 2] rfl) hc hs
  · have hq := hq.2 c1
    refine lv_iload_n hx hb d_Pr_checkIndex_4 rfl (lv_at hl 0 rfl) ?_
    refine lv_iload_n hx hb d_Pr_checkIndex_5 rfl (lv_at hl 1 rfl) ?_
    refine lv_icmp_lt (tgt := 16) hx hb d_Pr_checkIndex_6 (by decide) (fun c2 => ?_) (fun c2 => ?_)
    · have hq := hq.1 c2
      refine lv_iload_n hx hb d_Pr_checkIndex_16 rfl (lv_at hl 0 rfl) ?_
      exact bw_iret C hW ⟨_, rfl, hq⟩ d_Pr_checkIndex_17 hc hs
    · have hq := hq.2 c2
      exact k_Pr_checkIndex_9 C  _ _ _ _ hq _ _ _ _ _ hW (lv_sub hl [0, 1, 2] rfl) hc hs
theorem ci_Pr_checkIndex : CI n_Pr_checkIndex b_Pr_checkIndex 3 (some .int) 3 := ⟨m_108, m_19, by decide, by decide, by decide +kernel⟩
theorem c_Pr_checkIndex {l : Launch} {D : va_G} {AC : Nat → ClassId} {e0 mi : Nat} {Q : Int32 → Wd → Prop} (hl0 : l.stackTraces = false) (x0 : Int32) (x1 : Int32) (x2 : Option Nat) (w : Wd) (hq : wp_Pr_checkIndex e0 mi x0 x1 x2 w Q) : Ct l D AC e0 mi n_Pr_checkIndex (wy n_Pr_checkIndex b_Pr_checkIndex 3 (some .int)) 0 0 [.int x0, .int x1, va_rf x2] w 0 0 (fun v w9 => ∃ r9 : Int32, v = some (.int r9) ∧ Q r9 w9) (fun _ _ => False) :=
  Ct.of hl0 (by decide) (by simp [lg_sl, bw_cat, cat_i, cat_j]) (fun p e s m args below meth c A ls C hW hl => k_Pr_checkIndex_0 C x0 x1 x2 w hq s.heap [] 0 0 ls hW (by simpa [lv_args, bw_cat, cat_i, cat_j] using hl) (Nat.le_refl _) (Nat.le_refl _))
def wp_Ob_checkIndex (e0 mi : Nat) (x0 : Int32) (x1 : Int32) (w : Wd) (Q : Int32 → Wd → Prop) : Prop :=
  wp_Pr_checkIndex e0 mi x0 x1 none w (fun i7 w2 => Q i7 w2)
set_option maxHeartbeats 4000000 in
set_option maxRecDepth 100000 in
theorem k_Ob_checkIndex_0 {p : Program} {l : Launch} {e : Env} {s : State} {m : MethodId} {args : Array Value} {below : List Frame} {meth : Method} {c : Code} {D : va_G} {AC : Nat → ClassId} {e0 mi : Nat} {A : Nat → Prop} {mc ms : Nat} {Q : Int32 → Wd → Prop} (C : Cx p l s m args meth c D AC e0 mi A n_Ob_checkIndex b_Ob_checkIndex 2 (some .int)) (x0 : Int32) (x1 : Int32) (w : Wd) (hq : wp_Ob_checkIndex e0 mi x0 x1 w Q) : ∀ (H : Heap) (locs : List Loc) (cells slots : Nat) (ls : Array Slot), HW D cls8 FTc AC A s.heap H locs w → lv_has ls 2 [(0, .int x0), (1, .int x1)] → cells ≤ mc → slots ≤ ms → W p l e { frames := 1, cells := mc, slots := ms, locals := 22 } s m args below meth c H locs cells slots (vx_MQ below (QQ D AC A (fun v w9 => ∃ r9 : Int32, v = some (.int r9) ∧ Q r9 w9)) (XX D AC A (fun _ _ => False)) args s mc ms A) (F0 m 0 ls []) := by
  obtain ⟨hl0, hx, hb, hr, ht, hown, hlocks, hnm, hml, hex, hK, hA, hZ, hV⟩ := id C
  intro H locs cells slots ls hW hl hc hs
  unfold wp_Ob_checkIndex at hq
  refine lv_iload_n hx hb d_Ob_checkIndex_0 rfl (lv_at hl 0 rfl) ?_
  refine lv_iload_n hx hb d_Ob_checkIndex_1 rfl (lv_at hl 1 rfl) ?_
  refine bw_null hx hb d_Ob_checkIndex_2 ?_
  refine bw_callS (As := [.int x0, .int x1, va_rf none]) (rest := []) C hW ci_Pr_checkIndex m_106 m_107 d_Ob_checkIndex_3 rfl rfl hl.1 (by decide) ⟨Nat.le_of_ble_eq_true rfl, Nat.le_of_ble_eq_true rfl⟩ ⟨hc, hs⟩ (c_Pr_checkIndex hl0 _ _ _ _ hq) (fun _ _ _ _ _ _ h => h.elim) (fun v1 w2 H locs hv hW => ?_)
  obtain ⟨i7, rfl, hq⟩ := hv
  refine W.eq (g2 := F0 m 6 ls [.int i7]) rfl ?_
  exact bw_iret C hW ⟨_, rfl, hq⟩ d_Ob_checkIndex_6 hc hs
theorem ci_Ob_checkIndex : CI n_Ob_checkIndex b_Ob_checkIndex 2 (some .int) 2 := ⟨m_105, m_18, by decide, by decide, by decide +kernel⟩
theorem c_Ob_checkIndex {l : Launch} {D : va_G} {AC : Nat → ClassId} {e0 mi : Nat} {Q : Int32 → Wd → Prop} (hl0 : l.stackTraces = false) (x0 : Int32) (x1 : Int32) (w : Wd) (hq : wp_Ob_checkIndex e0 mi x0 x1 w Q) : Ct l D AC e0 mi n_Ob_checkIndex (wy n_Ob_checkIndex b_Ob_checkIndex 2 (some .int)) 1 22 [.int x0, .int x1] w 0 0 (fun v w9 => ∃ r9 : Int32, v = some (.int r9) ∧ Q r9 w9) (fun _ _ => False) :=
  Ct.of hl0 (by decide) (by simp [lg_sl, bw_cat, cat_i, cat_j]) (fun p e s m args below meth c A ls C hW hl => k_Ob_checkIndex_0 C x0 x1 w hq s.heap [] 0 0 ls hW (by simpa [lv_args, bw_cat, cat_i, cat_j] using hl) (Nat.le_refl _) (Nat.le_refl _))
def wp_Al_get (e0 mi : Nat) (x0 : Nat) (x1 : Int32) (w : Wd) (Q : Option Nat → Wd → Prop) : Prop :=
  bw_is w x0 7 ∧ (wp_Ob_checkIndex e0 mi x1 (wI w x0 2) w (fun i8 w3 => bw_is w3 x0 7 ∧ (wp_Al_elementData e0 mi x0 x1 w3 (fun r16 w11 => Q r16 w11))))
set_option maxHeartbeats 4000000 in
set_option maxRecDepth 100000 in
theorem k_Al_get_0 {p : Program} {l : Launch} {e : Env} {s : State} {m : MethodId} {args : Array Value} {below : List Frame} {meth : Method} {c : Code} {D : va_G} {AC : Nat → ClassId} {e0 mi : Nat} {A : Nat → Prop} {mc ms : Nat} {Q : Option Nat → Wd → Prop} (C : Cx p l s m args meth c D AC e0 mi A n_Al_get b_Al_get 2 (some (.object "java/lang/Object"))) (x0 : Nat) (x1 : Int32) (w : Wd) (hq : wp_Al_get e0 mi x0 x1 w Q) : ∀ (H : Heap) (locs : List Loc) (cells slots : Nat) (ls : Array Slot), HW D cls8 FTc AC A s.heap H locs w → lv_has ls 2 [(0, va_rf (some x0)), (1, .int x1)] → cells ≤ mc → slots ≤ ms → W p l e { frames := 2, cells := mc, slots := ms, locals := 43 } s m args below meth c H locs cells slots (vx_MQ below (QQ D AC A (fun v w9 => ∃ r9 : Option Nat, v = some (va_rf r9) ∧ Q r9 w9)) (XX D AC A (fun _ _ => False)) args s mc ms A) (F0 m 0 ls []) := by
  obtain ⟨hl0, hx, hb, hr, ht, hown, hlocks, hnm, hml, hex, hK, hA, hZ, hV⟩ := id C
  intro H locs cells slots ls hW hl hc hs
  unfold wp_Al_get at hq
  refine lv_iload_n hx hb d_Al_get_0 rfl (lv_at hl 1 rfl) ?_
  refine bw_aload_n hx hb d_Al_get_1 rfl (lv_at hl 0 rfl) ?_
  obtain ⟨t1, hq⟩ := hq
  refine bw_getI hx hb ht in_Al hown hK hW rfl t1 (by decide) rfl 2 (by decide) rfl (ht _ m_48) (fun _ h => h) d_Al_get_2 ?_
  refine bw_callS (As := [.int x1, .int (wI w x0 2)]) (rest := []) C hW ci_Ob_checkIndex m_103 m_104 d_Al_get_5 rfl rfl hl.1 (by decide) ⟨Nat.le_of_ble_eq_true rfl, Nat.le_of_ble_eq_true rfl⟩ ⟨hc, hs⟩ (c_Ob_checkIndex hl0 _ _ _ hq) (fun _ _ _ _ _ _ h => h.elim) (fun v2 w3 H locs hv hW => ?_)
  obtain ⟨i8, rfl, hq⟩ := hv
  refine W.eq (g2 := F0 m 8 ls [.int i8]) rfl ?_
  refine lv_pop hx hb d_Al_get_8 rfl ?_
  refine bw_aload_n hx hb d_Al_get_9 rfl (lv_at hl 0 rfl) ?_
  refine lv_iload_n hx hb d_Al_get_10 rfl (lv_at hl 1 rfl) ?_
  obtain ⟨t9, hq⟩ := hq
  refine bw_callV (As := [.int x1]) (rest := []) C hW ci_Al_elementData m_109 m_110 m_111 d_Al_get_11 rfl t9 (by decide) rfl rfl rfl hl.1 (by decide) ⟨Nat.le_of_ble_eq_true rfl, Nat.le_of_ble_eq_true rfl⟩ ⟨hc, hs⟩ (c_Al_elementData hl0 _ _ _ hq) (fun _ _ _ _ _ _ h => h.elim) (fun v10 w11 H locs hv hW => ?_)
  obtain ⟨r16, rfl, hq⟩ := hv
  refine W.eq (g2 := F0 m 14 ls [va_rf r16]) rfl ?_
  exact bw_aret C (Or.inl ⟨_, rfl⟩) hW ⟨_, rfl, hq⟩ d_Al_get_14 hc hs
theorem ci_Al_get : CI n_Al_get b_Al_get 2 (some (.object "java/lang/Object")) 1 := ⟨m_102, m_4, by decide, by decide, by decide +kernel⟩
theorem c_Al_get {l : Launch} {D : va_G} {AC : Nat → ClassId} {e0 mi : Nat} {Q : Option Nat → Wd → Prop} (hl0 : l.stackTraces = false) (x0 : Nat) (x1 : Int32) (w : Wd) (hq : wp_Al_get e0 mi x0 x1 w Q) : Ct l D AC e0 mi n_Al_get (wy n_Al_get b_Al_get 2 (some (.object "java/lang/Object"))) 2 43 [va_rf (some x0), .int x1] w 0 0 (fun v w9 => ∃ r9 : Option Nat, v = some (va_rf r9) ∧ Q r9 w9) (fun _ _ => False) :=
  Ct.of hl0 (by decide) (by simp [lg_sl, bw_cat, cat_i, cat_j]) (fun p e s m args below meth c A ls C hW hl => k_Al_get_0 C x0 x1 w hq s.heap [] 0 0 ls hW (by simpa [lv_args, bw_cat, cat_i, cat_j] using hl) (Nat.le_refl _) (Nat.le_refl _))
def wp_Au_hugeLength (e0 mi : Nat) (x0 : Int32) (x1 : Int32) (w : Wd) (nc ns : Nat) (Q : Int32 → Wd → Prop) : Prop :=
  ∀ i1 : Int32, i1 = x0 + x1 → ((0 ≤ i1 → (((2147483639 : Int32) < i1 → (Q i1 w)) ∧ (¬ (2147483639 : Int32) < i1 → (Q (2147483639 : Int32) w)))) ∧ (¬ 0 ≤ i1 → (False)))
set_option maxHeartbeats 4000000 in
set_option maxRecDepth 100000 in
theorem k_Au_hugeLength_0 {p : Program} {l : Launch} {e : Env} {s : State} {m : MethodId} {args : Array Value} {below : List Frame} {meth : Method} {c : Code} {D : va_G} {AC : Nat → ClassId} {e0 mi : Nat} {A : Nat → Prop} {mc ms : Nat} {Q : Int32 → Wd → Prop} (C : Cx p l s m args meth c D AC e0 mi A n_Au_hugeLength b_Au_hugeLength 3 (some .int)) (x0 : Int32) (x1 : Int32) (w : Wd) (nc ns : Nat) (hq : wp_Au_hugeLength e0 mi x0 x1 w nc ns Q) : ∀ (H : Heap) (locs : List Loc) (cells slots : Nat) (ls : Array Slot), HW D cls8 FTc AC A s.heap H locs w → lv_has ls 3 [(0, .int x0), (1, .int x1)] → cells + nc ≤ mc → slots + ns ≤ ms → W p l e { frames := 0, cells := mc, slots := ms, locals := 0 } s m args below meth c H locs cells slots (vx_MQ below (QQ D AC A (fun v w9 => ∃ r9 : Int32, v = some (.int r9) ∧ Q r9 w9)) (XX D AC A (fun _ _ => False)) args s mc ms A) (F0 m 0 ls []) := by
  obtain ⟨hl0, hx, hb, hr, ht, hown, hlocks, hnm, hml, hex, hK, hA, hZ, hV⟩ := id C
  intro H locs cells slots ls hW hl hc hs
  unfold wp_Au_hugeLength at hq
  refine lv_iload_n hx hb d_Au_hugeLength_0 rfl (lv_at hl 0 rfl) ?_
  refine lv_iload_n hx hb d_Au_hugeLength_1 rfl (lv_at hl 1 rfl) ?_
  refine lv_iadd hx hb d_Au_hugeLength_2 ?_
  refine lv_topi (fun i1 ei1 => ?_)
  have hq := hq i1 ei1
  refine lv_istore_n (i := 2) (lv' := [(2, .int i1), (0, .int x0), (1, .int x1)]) hx hb d_Au_hugeLength_3 rfl hl (by decide) (by simp [bw_cat, cat_i, cat_j]) (fun ls hl => ?_)
  refine lv_iload_n hx hb d_Au_hugeLength_4 rfl (lv_at hl 0 rfl) ?_
  refine lv_if_ge (tgt := 49) hx hb d_Au_hugeLength_5 (by decide) (fun c2 => ?_) (fun c2 => ?_)
  · have hq := hq.1 c2
    refine lv_iload_n hx hb d_Au_hugeLength_49 rfl (lv_at hl 0 rfl) ?_
    refine lv_ldc hx hb hown (ht _ m_296) d_Au_hugeLength_50 ?_
    refine lv_icmp_gt (tgt := 58) hx hb d_Au_hugeLength_52 (by decide) (fun c3 => ?_) (fun c3 => ?_)
    · have hq := hq.1 c3
      refine lv_iload_n hx hb d_Au_hugeLength_58 rfl (lv_at hl 0 rfl) ?_
      exact bw_iret C hW ⟨_, rfl, hq⟩ d_Au_hugeLength_59 (Nat.le_trans (Nat.le_add_right _ _) hc) (Nat.le_trans (Nat.le_add_right _ _) hs)
    · have hq := hq.2 c3
      refine lv_ldc hx hb hown (ht _ m_296) d_Au_hugeLength_55 ?_
      exact bw_iret C hW ⟨_, rfl, hq⟩ d_Au_hugeLength_57 (Nat.le_trans (Nat.le_add_right _ _) hc) (Nat.le_trans (Nat.le_add_right _ _) hs)
  · have hq := hq.2 c2
    exact hq.elim
theorem ci_Au_hugeLength : CI n_Au_hugeLength b_Au_hugeLength 3 (some .int) 2 := ⟨m_299, m_13, by decide, by decide, by decide +kernel⟩
theorem c_Au_hugeLength {l : Launch} {D : va_G} {AC : Nat → ClassId} {e0 mi : Nat} {Q : Int32 → Wd → Prop} (hl0 : l.stackTraces = false) (x0 : Int32) (x1 : Int32) (w : Wd) (nc ns : Nat) (hq : wp_Au_hugeLength e0 mi x0 x1 w nc ns Q) : Ct l D AC e0 mi n_Au_hugeLength (wy n_Au_hugeLength b_Au_hugeLength 3 (some .int)) 0 0 [.int x0, .int x1] w nc ns (fun v w9 => ∃ r9 : Int32, v = some (.int r9) ∧ Q r9 w9) (fun _ _ => False) :=
  Ct.of hl0 (by decide) (by simp [lg_sl, bw_cat, cat_i, cat_j]) (fun p e s m args below meth c A ls C hW hl => k_Au_hugeLength_0 C x0 x1 w nc ns hq s.heap [] 0 0 ls hW (by simpa [lv_args, bw_cat, cat_i, cat_j] using hl) (Nat.le_of_eq (Nat.zero_add _)) (Nat.le_of_eq (Nat.zero_add _)))
def wb_Au_newLength_21 (e0 mi : Nat) (Q : Int32 → Wd → Prop) (x0 : Int32) (x1 : Int32) (x2 : Int32) (x3 : Int32) (w : Wd) (nc ns : Nat) : Prop :=
  ∃ k3 k4 : Nat, k3 ≤ nc ∧ k4 ≤ ns ∧ wp_Au_hugeLength e0 mi x0 x1 w k3 k4 (fun i7 w2 => Q i7 w2)
set_option maxHeartbeats 4000000 in
set_option maxRecDepth 100000 in
theorem k_Au_newLength_21 {p : Program} {l : Launch} {e : Env} {s : State} {m : MethodId} {args : Array Value} {below : List Frame} {meth : Method} {c : Code} {D : va_G} {AC : Nat → ClassId} {e0 mi : Nat} {A : Nat → Prop} {mc ms : Nat} {Q : Int32 → Wd → Prop} (C : Cx p l s m args meth c D AC e0 mi A n_Au_newLength b_Au_newLength 4 (some .int)) (x0 : Int32) (x1 : Int32) (x2 : Int32) (x3 : Int32) (w : Wd) (nc ns : Nat) (hq : wb_Au_newLength_21 e0 mi Q x0 x1 x2 x3 w nc ns) : ∀ (H : Heap) (locs : List Loc) (cells slots : Nat) (ls : Array Slot), HW D cls8 FTc AC A s.heap H locs w → lv_has ls 4 [(0, .int x0), (1, .int x1), (2, .int x2), (3, .int x3)] → cells + nc ≤ mc → slots + ns ≤ ms → W p l e { frames := 1, cells := mc, slots := ms, locals := 40 } s m args below meth c H locs cells slots (vx_MQ below (QQ D AC A (fun v w9 => ∃ r9 : Int32, v = some (.int r9) ∧ Q r9 w9)) (XX D AC A (fun _ _ => False)) args s mc ms A) (F0 m 21 ls []) := by
  obtain ⟨hl0, hx, hb, hr, ht, hown, hlocks, hnm, hml, hex, hK, hA, hZ, hV⟩ := id C
  intro H locs cells slots ls hW hl hc hs
  unfold wb_Au_newLength_21 at hq
  refine lv_iload_n hx hb d_Au_newLength_21 rfl (lv_at hl 0 rfl) ?_
  refine lv_iload_n hx hb d_Au_newLength_22 rfl (lv_at hl 1 rfl) ?_
  obtain ⟨k3, k4, h5, h6, hq⟩ := hq
  refine bw_callS (As := [.int x0, .int x1]) (rest := []) C hW ci_Au_hugeLength m_297 m_298 d_Au_newLength_23 rfl rfl hl.1 (by decide) ⟨Nat.le_of_ble_eq_true rfl, Nat.le_of_ble_eq_true rfl⟩ ⟨Nat.le_trans (Nat.add_le_add_left h5 _) hc, Nat.le_trans (Nat.add_le_add_left h6 _) hs⟩ (c_Au_hugeLength hl0 _ _ _ _ _ hq) (fun _ _ _ _ _ _ h => h.elim) (fun v1 w2 H locs hv hW => ?_)
  obtain ⟨i7, rfl, hq⟩ := hv
  have hc := bw_bud hc h5
  have hs := bw_bud hs h6
  refine W.eq (g2 := F0 m 26 ls [.int i7]) rfl ?_
  exact bw_iret C hW ⟨_, rfl, hq⟩ d_Au_newLength_26 (Nat.le_trans (Nat.le_add_right _ _) hc) (Nat.le_trans (Nat.le_add_right _ _) hs)
def wp_Au_newLength (e0 mi : Nat) (x0 : Int32) (x1 : Int32) (x2 : Int32) (w : Wd) (nc ns : Nat) (Q : Int32 → Wd → Prop) : Prop :=
  ∀ i1 : Int32, i1 = (if x1 < x2 then x2 else x1) → (∀ i2 : Int32, i2 = x0 + i1 → ((i2 ≤ (0 : Int32) → (wb_Au_newLength_21 e0 mi Q x0 x1 x2 i2 w nc ns)) ∧ (¬ i2 ≤ (0 : Int32) → (((2147483639 : Int32) < i2 → (wb_Au_newLength_21 e0 mi Q x0 x1 x2 i2 w nc ns)) ∧ (¬ (2147483639 : Int32) < i2 → (Q i2 w))))))
set_option maxHeartbeats 4000000 in
set_option maxRecDepth 100000 in
theorem k_Au_newLength_0 {p : Program} {l : Launch} {e : Env} {s : State} {m : MethodId} {args : Array Value} {below : List Frame} {meth : Method} {c : Code} {D : va_G} {AC : Nat → ClassId} {e0 mi : Nat} {A : Nat → Prop} {mc ms : Nat} {Q : Int32 → Wd → Prop} (C : Cx p l s m args meth c D AC e0 mi A n_Au_newLength b_Au_newLength 4 (some .int)) (x0 : Int32) (x1 : Int32) (x2 : Int32) (w : Wd) (nc ns : Nat) (hq : wp_Au_newLength e0 mi x0 x1 x2 w nc ns Q) : ∀ (H : Heap) (locs : List Loc) (cells slots : Nat) (ls : Array Slot), HW D cls8 FTc AC A s.heap H locs w → lv_has ls 4 [(0, .int x0), (1, .int x1), (2, .int x2)] → cells + nc ≤ mc → slots + ns ≤ ms → W p l e { frames := 1, cells := mc, slots := ms, locals := 40 } s m args below meth c H locs cells slots (vx_MQ below (QQ D AC A (fun v w9 => ∃ r9 : Int32, v = some (.int r9) ∧ Q r9 w9)) (XX D AC A (fun _ _ => False)) args s mc ms A) (F0 m 0 ls []) := by
  obtain ⟨hl0, hx, hb, hr, ht, hown, hlocks, hnm, hml, hex, hK, hA, hZ, hV⟩ := id C
  intro H locs cells slots ls hW hl hc hs
  unfold wp_Au_newLength at hq
  refine lv_iload_n hx hb d_Au_newLength_0 rfl (lv_at hl 0 rfl) ?_
  refine lv_iload_n hx hb d_Au_newLength_1 rfl (lv_at hl 1 rfl) ?_
  refine lv_iload_n hx hb d_Au_newLength_2 rfl (lv_at hl 2 rfl) ?_
  refine va_mmax hx hb (by rw [hml]; exact hl.1.symm) hown (ht _ m_293) (ht _ m_294) (ht _ m_14) (ht _ m_295) (Nat.le_of_ble_eq_true rfl) (by simp [bw_cat, cat_i, cat_j]) (Nat.le_trans (Nat.le_add_right _ _) hc) (Nat.le_trans (Nat.le_add_right _ _) hs) d_Au_newLength_3 ?_
  refine lv_topi (fun i1 ei1 => ?_)
  have hq := hq i1 ei1
  refine lv_iadd hx hb d_Au_newLength_6 ?_
  refine lv_topi (fun i2 ei2 => ?_)
  have hq := hq i2 ei2
  refine lv_istore_n (i := 3) (lv' := [(3, .int i2), (0, .int x0), (1, .int x1), (2, .int x2)]) hx hb d_Au_newLength_7 rfl hl (by decide) (by simp [bw_cat, cat_i, cat_j]) (fun ls hl => ?_)
  refine lv_iconst (v := 0) hx hb d_Au_newLength_8 (by decide) ?_
  refine lv_iload_n hx hb d_Au_newLength_9 rfl (lv_at hl 0 rfl) ?_
  refine lv_icmp_ge (tgt := 21) hx hb d_Au_newLength_10 (by decide) (fun c3 => ?_) (fun c3 => ?_)
  · have hq := hq.1 c3
    exact k_Au_newLength_21 C  _ _ _ _ _ _ _ hq _ _ _ _ _ hW (lv_sub hl [1, 2, 3, 0] rfl) hc hs
  · have hq := hq.2 c3
    refine lv_iload_n hx hb d_Au_newLength_13 rfl (lv_at hl 0 rfl) ?_
    refine lv_ldc hx hb hown (ht _ m_296) d_Au_newLength_14 ?_
    refine lv_icmp_gt (tgt := 21) hx hb d_Au_newLength_16 (by decide) (fun c4 => ?_) (fun c4 => ?_)
    · have hq := hq.1 c4
      exact k_Au_newLength_21 C  _ _ _ _ _ _ _ hq _ _ _ _ _ hW (lv_sub hl [1, 2, 3, 0] rfl) hc hs
    · have hq := hq.2 c4
      refine lv_iload_n hx hb d_Au_newLength_19 rfl (lv_at hl 0 rfl) ?_
      exact bw_iret C hW ⟨_, rfl, hq⟩ d_Au_newLength_20 (Nat.le_trans (Nat.le_add_right _ _) hc) (Nat.le_trans (Nat.le_add_right _ _) hs)
theorem ci_Au_newLength : CI n_Au_newLength b_Au_newLength 4 (some .int) 3 := ⟨m_292, m_13, by decide, by decide, by decide +kernel⟩
theorem c_Au_newLength {l : Launch} {D : va_G} {AC : Nat → ClassId} {e0 mi : Nat} {Q : Int32 → Wd → Prop} (hl0 : l.stackTraces = false) (x0 : Int32) (x1 : Int32) (x2 : Int32) (w : Wd) (nc ns : Nat) (hq : wp_Au_newLength e0 mi x0 x1 x2 w nc ns Q) : Ct l D AC e0 mi n_Au_newLength (wy n_Au_newLength b_Au_newLength 4 (some .int)) 1 40 [.int x0, .int x1, .int x2] w nc ns (fun v w9 => ∃ r9 : Int32, v = some (.int r9) ∧ Q r9 w9) (fun _ _ => False) :=
  Ct.of hl0 (by decide) (by simp [lg_sl, bw_cat, cat_i, cat_j]) (fun p e s m args below meth c A ls C hW hl => k_Au_newLength_0 C x0 x1 x2 w nc ns hq s.heap [] 0 0 ls hW (by simpa [lv_args, bw_cat, cat_i, cat_j] using hl) (Nat.le_of_eq (Nat.zero_add _)) (Nat.le_of_eq (Nat.zero_add _)))
def wp_As_copyOf2 (e0 mi : Nat) (x0 : Option Nat) (x1 : Int32) (x2 : Option Nat) (w : Wd) (nc ns : Nat) (Q : Option Nat → Wd → Prop) : Prop :=
  (¬ x2 = (some mi) → (False)) ∧ (x2 = (some mi) → (¬ x1 < 0 ∧ x1.toNatClampNeg * 4 ≤ 536870912 ∧ 1 ≤ nc ∧ x1.toNatClampNeg ≤ ns ∧ ∀ q2 : Nat, q2 ∉ wL w → (∃ n9 : Nat, bw_len e0 (bw_new w q2 100 x1.toNatClampNeg) x0 n9 ∧ (∀ i11 : Int32, i11 = (if x1 < (nI n9) then x1 else (nI n9)) → (∃ a12 : Nat, x0 = some a12 ∧ (bw_is (bw_new w q2 100 x1.toNatClampNeg) a12 100 ∧ (¬ (0 : Int32) < 0 ∧ ¬ (0 : Int32) < 0 ∧ ¬ i11 < 0 ∧ (0 : Int32).toNatClampNeg + i11.toNatClampNeg ≤ wN (bw_new w q2 100 x1.toNatClampNeg) a12 ∧ (0 : Int32).toNatClampNeg + i11.toNatClampNeg ≤ wN (bw_new w q2 100 x1.toNatClampNeg) q2 ∧ (∀ i20 : Nat, i20 < i11.toNatClampNeg → bw_el (bw_new w q2 100 x1.toNatClampNeg) (wR (bw_new w q2 100 x1.toNatClampNeg) a12 ((0 : Int32).toNatClampNeg + i20))) ∧ (Q (some q2) (sRow (bw_new w q2 100 x1.toNatClampNeg) q2 (va_cpy (wR (bw_new w q2 100 x1.toNatClampNeg) a12) (wR (bw_new w q2 100 x1.toNatClampNeg) q2) (0 : Int32).toNatClampNeg (0 : Int32).toNatClampNeg i11.toNatClampNeg))))))))))
set_option maxHeartbeats 4000000 in
set_option maxRecDepth 100000 in
theorem k_As_copyOf2_0 {p : Program} {l : Launch} {e : Env} {s : State} {m : MethodId} {args : Array Value} {below : List Frame} {meth : Method} {c : Code} {D : va_G} {AC : Nat → ClassId} {e0 mi : Nat} {A : Nat → Prop} {mc ms : Nat} {Q : Option Nat → Wd → Prop} (C : Cx p l s m args meth c D AC e0 mi A n_As_copyOf2 b_As_copyOf2 4 (some (.array (.object "java/lang/Object")))) (x0 : Option Nat) (x1 : Int32) (x2 : Option Nat) (w : Wd) (nc ns : Nat) (hq : wp_As_copyOf2 e0 mi x0 x1 x2 w nc ns Q) : ∀ (H : Heap) (locs : List Loc) (cells slots : Nat) (ls : Array Slot), HW D cls8 FTc AC A s.heap H locs w → lv_has ls 4 [(0, va_rf x0), (1, .int x1), (2, va_rf x2)] → cells + nc ≤ mc → slots + ns ≤ ms → W p l e { frames := 1, cells := mc, slots := ms, locals := 40 } s m args below meth c H locs cells slots (vx_MQ below (QQ D AC A (fun v w9 => ∃ r9 : Option Nat, v = some (va_rf r9) ∧ Q r9 w9)) (XX D AC A (fun _ _ => False)) args s mc ms A) (F0 m 0 ls []) := by
  obtain ⟨hl0, hx, hb, hr, ht, hown, hlocks, hnm, hml, hex, hK, hA, hZ, hV⟩ := id C
  intro H locs cells slots ls hW hl hc hs
  unfold wp_As_copyOf2 at hq
  refine bw_aload_n hx hb d_As_copyOf2_0 rfl (lv_at hl 2 rfl) ?_
  refine bw_ldcM C m_323 d_As_copyOf2_1 ?_
  refine lv_acmp_ne (tgt := 13) hx hb d_As_copyOf2_3 (by decide) (fun c1 => ?_) (fun c1 => ?_)
  · have hq := hq.1 c1
    refine bw_aload_n hx hb d_As_copyOf2_13 rfl (lv_at hl 2 rfl) ?_
    exact hq.elim
  · have hq := hq.2 c1
    refine lv_iload_n hx hb d_As_copyOf2_6 rfl (lv_at hl 1 rfl) ?_
    obtain ⟨h3, h6, h4, h5, hq⟩ := hq
    refine bw_newq C hW m_325 h3 h6 (Nat.le_trans (Nat.add_le_add_left h4 _) hc) (Nat.le_trans (Nat.add_le_add_left h5 _) hs) d_As_copyOf2_7 (fun q2 H n7 hW => ?_)
    have hq := hq q2 n7
    have hc := bw_bud hc h4
    have hs := bw_bud hs h5
    have t8 : bw_is (bw_new w q2 100 x1.toNatClampNeg) q2 100 := bw_is_self _ _ _ _
    refine lv_goto (tgt := 24) hx hb d_As_copyOf2_10 (by decide) ?_
    refine bw_astore_n (i := 3) (lv' := [(3, va_rf (some q2)), (0, va_rf x0), (1, .int x1), (2, va_rf x2)]) hx hb d_As_copyOf2_24 rfl hl (by decide) (by simp [bw_cat, cat_i, cat_j]) (fun ls hl => ?_)
    refine bw_aload_n hx hb d_As_copyOf2_25 rfl (lv_at hl 1 rfl) ?_
    refine lv_iconst (v := 0) hx hb d_As_copyOf2_26 (by decide) ?_
    refine bw_aload_n hx hb d_As_copyOf2_27 rfl (lv_at hl 0 rfl) ?_
    refine lv_iconst (v := 0) hx hb d_As_copyOf2_28 (by decide) ?_
    refine bw_aload_n hx hb d_As_copyOf2_29 rfl (lv_at hl 1 rfl) ?_
    obtain ⟨n9, h10, hq⟩ := hq
    refine bw_alenq C hW h10 d_As_copyOf2_30 ?_
    refine lv_iload_n hx hb d_As_copyOf2_31 rfl (lv_at hl 2 rfl) ?_
    refine va_mmin hx hb (by rw [hml]; exact hl.1.symm) hown (ht _ m_326) (ht _ m_327) (ht _ m_14) (ht _ m_328) (Nat.le_of_ble_eq_true rfl) (by simp [bw_cat, cat_i, cat_j]) (Nat.le_trans (Nat.le_add_right _ _) hc) (Nat.le_trans (Nat.le_add_right _ _) hs) d_As_copyOf2_32 ?_
    refine lv_topi (fun i11 ei11 => ?_)
    have hq := hq i11 ei11
    obtain ⟨a12, ea12, hq⟩ := hq
    obtain ⟨t13, hq⟩ := hq
    obtain ⟨h14, h15, h16, h17, h18, h19, hq⟩ := hq
    refine bw_copy C hW hl.1 m_329 m_331 m_330 m_16 ea12 rfl t13 t8 h14 h15 h16 h17 h18 h19 (Nat.le_of_ble_eq_true rfl) (by exact Nat.le_of_ble_eq_true rfl) d_As_copyOf2_35 (fun H locs hW => ?_)
    refine bw_aload_n hx hb d_As_copyOf2_38 rfl (lv_at hl 0 rfl) ?_
    exact bw_aret C (Or.inr ⟨_, rfl⟩) hW ⟨_, rfl, hq⟩ d_As_copyOf2_39 (Nat.le_trans (Nat.le_add_right _ _) hc) (Nat.le_trans (Nat.le_add_right _ _) hs)
theorem ci_As_copyOf2 : CI n_As_copyOf2 b_As_copyOf2 4 (some (.array (.object "java/lang/Object"))) 3 := ⟨m_322, m_15, by decide, by decide, by decide +kernel⟩
theorem c_As_copyOf2 {l : Launch} {D : va_G} {AC : Nat → ClassId} {e0 mi : Nat} {Q : Option Nat → Wd → Prop} (hl0 : l.stackTraces = false) (x0 : Option Nat) (x1 : Int32) (x2 : Option Nat) (w : Wd) (nc ns : Nat) (hq : wp_As_copyOf2 e0 mi x0 x1 x2 w nc ns Q) : Ct l D AC e0 mi n_As_copyOf2 (wy n_As_copyOf2 b_As_copyOf2 4 (some (.array (.object "java/lang/Object")))) 1 40 [va_rf x0, .int x1, va_rf x2] w nc ns (fun v w9 => ∃ r9 : Option Nat, v = some (va_rf r9) ∧ Q r9 w9) (fun _ _ => False) :=
  Ct.of hl0 (by decide) (by simp [lg_sl, bw_cat, cat_i, cat_j]) (fun p e s m args below meth c A ls C hW hl => k_As_copyOf2_0 C x0 x1 x2 w nc ns hq s.heap [] 0 0 ls hW (by simpa [lv_args, bw_cat, cat_i, cat_j] using hl) (Nat.le_of_eq (Nat.zero_add _)) (Nat.le_of_eq (Nat.zero_add _)))
def wp_As_copyOf (e0 mi : Nat) (x0 : Option Nat) (x1 : Int32) (w : Wd) (nc ns : Nat) (Q : Option Nat → Wd → Prop) : Prop :=
  ∃ a1 : Nat, x0 = some a1 ∧ (bw_is w a1 100 ∧ (∃ k5 k6 : Nat, k5 ≤ nc ∧ k6 ≤ ns ∧ wp_As_copyOf2 e0 mi x0 x1 (some mi) w k5 k6 (fun r9 w4 => Q r9 w4)))
set_option maxHeartbeats 4000000 in
set_option maxRecDepth 100000 in
theorem k_As_copyOf_0 {p : Program} {l : Launch} {e : Env} {s : State} {m : MethodId} {args : Array Value} {below : List Frame} {meth : Method} {c : Code} {D : va_G} {AC : Nat → ClassId} {e0 mi : Nat} {A : Nat → Prop} {mc ms : Nat} {Q : Option Nat → Wd → Prop} (C : Cx p l s m args meth c D AC e0 mi A n_As_copyOf b_As_copyOf 2 (some (.array (.object "java/lang/Object")))) (x0 : Option Nat) (x1 : Int32) (w : Wd) (nc ns : Nat) (hq : wp_As_copyOf e0 mi x0 x1 w nc ns Q) : ∀ (H : Heap) (locs : List Loc) (cells slots : Nat) (ls : Array Slot), HW D cls8 FTc AC A s.heap H locs w → lv_has ls 2 [(0, va_rf x0), (1, .int x1)] → cells + nc ≤ mc → slots + ns ≤ ms → W p l e { frames := 2, cells := mc, slots := ms, locals := 63 } s m args below meth c H locs cells slots (vx_MQ below (QQ D AC A (fun v w9 => ∃ r9 : Option Nat, v = some (va_rf r9) ∧ Q r9 w9)) (XX D AC A (fun _ _ => False)) args s mc ms A) (F0 m 0 ls []) := by
  obtain ⟨hl0, hx, hb, hr, ht, hown, hlocks, hnm, hml, hex, hK, hA, hZ, hV⟩ := id C
  intro H locs cells slots ls hW hl hc hs
  unfold wp_As_copyOf at hq
  refine bw_aload_n hx hb d_As_copyOf_0 rfl (lv_at hl 0 rfl) ?_
  refine lv_iload_n hx hb d_As_copyOf_1 rfl (lv_at hl 1 rfl) ?_
  refine bw_aload_n hx hb d_As_copyOf_2 rfl (lv_at hl 0 rfl) ?_
  obtain ⟨a1, ea1, hq⟩ := hq
  obtain ⟨t2, hq⟩ := hq
  refine bw_getC C hW hl.1 m_303 m_987 m_304 m_319 ea1 t2 (Nat.le_of_ble_eq_true rfl) (by simp [bw_cat, cat_i, cat_j]) d_As_copyOf_3 ?_
  obtain ⟨k5, k6, h7, h8, hq⟩ := hq
  refine bw_callS (As := [va_rf x0, .int x1, va_rf (some mi)]) (rest := []) C hW ci_As_copyOf2 m_320 m_321 d_As_copyOf_6 rfl rfl hl.1 (by decide) ⟨Nat.le_of_ble_eq_true rfl, Nat.le_of_ble_eq_true rfl⟩ ⟨Nat.le_trans (Nat.add_le_add_left h7 _) hc, Nat.le_trans (Nat.add_le_add_left h8 _) hs⟩ (c_As_copyOf2 hl0 _ _ _ _ _ _ hq) (fun _ _ _ _ _ _ h => h.elim) (fun v3 w4 H locs hv hW => ?_)
  obtain ⟨r9, rfl, hq⟩ := hv
  have hc := bw_bud hc h7
  have hs := bw_bud hs h8
  refine W.eq (g2 := F0 m 9 ls [va_rf r9]) rfl ?_
  exact bw_aret C (Or.inr ⟨_, rfl⟩) hW ⟨_, rfl, hq⟩ d_As_copyOf_9 (Nat.le_trans (Nat.le_add_right _ _) hc) (Nat.le_trans (Nat.le_add_right _ _) hs)
theorem ci_As_copyOf : CI n_As_copyOf b_As_copyOf 2 (some (.array (.object "java/lang/Object"))) 2 := ⟨m_302, m_15, by decide, by decide, by decide +kernel⟩
theorem c_As_copyOf {l : Launch} {D : va_G} {AC : Nat → ClassId} {e0 mi : Nat} {Q : Option Nat → Wd → Prop} (hl0 : l.stackTraces = false) (x0 : Option Nat) (x1 : Int32) (w : Wd) (nc ns : Nat) (hq : wp_As_copyOf e0 mi x0 x1 w nc ns Q) : Ct l D AC e0 mi n_As_copyOf (wy n_As_copyOf b_As_copyOf 2 (some (.array (.object "java/lang/Object")))) 2 63 [va_rf x0, .int x1] w nc ns (fun v w9 => ∃ r9 : Option Nat, v = some (va_rf r9) ∧ Q r9 w9) (fun _ _ => False) :=
  Ct.of hl0 (by decide) (by simp [lg_sl, bw_cat, cat_i, cat_j]) (fun p e s m args below meth c A ls C hW hl => k_As_copyOf_0 C x0 x1 w nc ns hq s.heap [] 0 0 ls hW (by simpa [lv_args, bw_cat, cat_i, cat_j] using hl) (Nat.le_of_eq (Nat.zero_add _)) (Nat.le_of_eq (Nat.zero_add _)))
def wb_Al_grow2_20 (e0 mi : Nat) (Q : Option Nat → Wd → Prop) (x0 : Nat) (x1 : Int32) (x2 : Int32) (w : Wd) (nc ns : Nat) : Prop :=
  ∃ k3 k4 : Nat, k3 ≤ nc ∧ k4 ≤ ns ∧ wp_Au_newLength e0 mi x2 (x1 - x2) (x2 >>> ((1 : Int32) &&& 31)) w k3 k4 (fun i7 w2 => bw_is w2 x0 7 ∧ (∃ k11 k12 : Nat, k11 ≤ (nc - k3) ∧ k12 ≤ (ns - k4) ∧ wp_As_copyOf e0 mi (wR w2 x0 1) i7 w2 k11 k12 (fun r15 w10 => bw_is w10 x0 7 ∧ (Q r15 (sR w10 x0 1 r15)))))
set_option maxHeartbeats 4000000 in
set_option maxRecDepth 100000 in
theorem k_Al_grow2_20 {p : Program} {l : Launch} {e : Env} {s : State} {m : MethodId} {args : Array Value} {below : List Frame} {meth : Method} {c : Code} {D : va_G} {AC : Nat → ClassId} {e0 mi : Nat} {A : Nat → Prop} {mc ms : Nat} {Q : Option Nat → Wd → Prop} (C : Cx p l s m args meth c D AC e0 mi A n_Al_grow2 b_Al_grow2 4 (some (.array (.object "java/lang/Object")))) (x0 : Nat) (x1 : Int32) (x2 : Int32) (w : Wd) (nc ns : Nat) (hq : wb_Al_grow2_20 e0 mi Q x0 x1 x2 w nc ns) : ∀ (H : Heap) (locs : List Loc) (cells slots : Nat) (ls : Array Slot), HW D cls8 FTc AC A s.heap H locs w → lv_has ls 4 [(0, va_rf (some x0)), (1, .int x1), (2, .int x2)] → cells + nc ≤ mc → slots + ns ≤ ms → W p l e { frames := 3, cells := mc, slots := ms, locals := 84 } s m args below meth c H locs cells slots (vx_MQ below (QQ D AC A (fun v w9 => ∃ r9 : Option Nat, v = some (va_rf r9) ∧ Q r9 w9)) (XX D AC A (fun _ _ => False)) args s mc ms A) (F0 m 20 ls []) := by
  obtain ⟨hl0, hx, hb, hr, ht, hown, hlocks, hnm, hml, hex, hK, hA, hZ, hV⟩ := id C
  intro H locs cells slots ls hW hl hc hs
  unfold wb_Al_grow2_20 at hq
  refine lv_iload_n hx hb d_Al_grow2_20 rfl (lv_at hl 2 rfl) ?_
  refine lv_iload_n hx hb d_Al_grow2_21 rfl (lv_at hl 1 rfl) ?_
  refine lv_iload_n hx hb d_Al_grow2_22 rfl (lv_at hl 2 rfl) ?_
  refine lv_isub hx hb d_Al_grow2_23 ?_
  refine lv_iload_n hx hb d_Al_grow2_24 rfl (lv_at hl 2 rfl) ?_
  refine lv_iconst (v := 1) hx hb d_Al_grow2_25 (by decide) ?_
  refine lv_ishr hx hb d_Al_grow2_26 ?_
  obtain ⟨k3, k4, h5, h6, hq⟩ := hq
  refine bw_callS (As := [.int x2, .int (x1 - x2), .int (x2 >>> ((1 : Int32) &&& 31))]) (rest := []) C hW ci_Au_newLength m_290 m_291 d_Al_grow2_27 rfl rfl hl.1 (by decide) ⟨Nat.le_of_ble_eq_true rfl, Nat.le_of_ble_eq_true rfl⟩ ⟨Nat.le_trans (Nat.add_le_add_left h5 _) hc, Nat.le_trans (Nat.add_le_add_left h6 _) hs⟩ (c_Au_newLength hl0 _ _ _ _ _ _ hq) (fun _ _ _ _ _ _ h => h.elim) (fun v1 w2 H locs hv hW => ?_)
  obtain ⟨i7, rfl, hq⟩ := hv
  have hc := bw_bud hc h5
  have hs := bw_bud hs h6
  refine W.eq (g2 := F0 m 30 ls [.int i7]) rfl ?_
  refine lv_istore_n (i := 3) (lv' := [(3, .int i7), (0, va_rf (some x0)), (1, .int x1), (2, .int x2)]) hx hb d_Al_grow2_30 rfl hl (by decide) (by simp [bw_cat, cat_i, cat_j]) (fun ls hl => ?_)
  refine bw_aload_n hx hb d_Al_grow2_31 rfl (lv_at hl 1 rfl) ?_
  refine bw_aload_n hx hb d_Al_grow2_32 rfl (lv_at hl 1 rfl) ?_
  obtain ⟨t8, hq⟩ := hq
  refine bw_getR hx hb ht in_Al hown hK hW rfl t8 (by decide) rfl 1 (by decide) rfl (ht _ m_47) (fun _ h => h) d_Al_grow2_33 ?_
  refine lv_iload_n hx hb d_Al_grow2_36 rfl (lv_at hl 0 rfl) ?_
  obtain ⟨k11, k12, h13, h14, hq⟩ := hq
  refine bw_callS (As := [va_rf (wR w2 x0 1), .int i7]) (rest := [va_rf (some x0)]) C hW ci_As_copyOf m_300 m_301 d_Al_grow2_37 rfl rfl hl.1 (by simp [bw_cat, cat_i, cat_j]) ⟨Nat.le_of_ble_eq_true rfl, Nat.le_of_ble_eq_true rfl⟩ ⟨Nat.le_trans (Nat.add_le_add_left h13 _) hc, Nat.le_trans (Nat.add_le_add_left h14 _) hs⟩ (c_As_copyOf hl0 _ _ _ _ _ hq) (fun _ _ _ _ _ _ h => h.elim) (fun v9 w10 H locs hv hW => ?_)
  obtain ⟨r15, rfl, hq⟩ := hv
  have hc := bw_bud hc h13
  have hs := bw_bud hs h14
  refine W.eq (g2 := F0 m 40 ls [va_rf r15, va_rf (some x0)]) rfl ?_
  refine lv_dup_x1 hx hb d_Al_grow2_40 (bw_cat _) (bw_cat _) ?_
  obtain ⟨t16, hq⟩ := hq
  refine bw_putR hx hb ht in_Al y_Al yk_Al nm_Al hown hK hW rfl t16 (by decide) rfl 1 (by decide) rfl (ht _ m_47) (fun _ h => h) (Or.inl rfl) (bw_nra _ _) (bw_fra _ _) d_Al_grow2_41 (fun H locs hW => ?_)
  exact bw_aret C (Or.inr ⟨_, rfl⟩) hW ⟨_, rfl, hq⟩ d_Al_grow2_44 (Nat.le_trans (Nat.le_add_right _ _) hc) (Nat.le_trans (Nat.le_add_right _ _) hs)
def wp_Al_grow2 (e0 mi : Nat) (x0 : Nat) (x1 : Int32) (w : Wd) (nc ns : Nat) (Q : Option Nat → Wd → Prop) : Prop :=
  bw_is w x0 7 ∧ (∃ n2 : Nat, bw_len e0 w (wR w x0 1) n2 ∧ (∀ i4 : Int32, i4 = nI n2 → ((0 < i4 → (wb_Al_grow2_20 e0 mi Q x0 x1 i4 w nc ns)) ∧ (¬ 0 < i4 → (((wR w x0 1) = (some e0) → (∀ i7 : Int32, i7 = (if (10 : Int32) < x1 then x1 else (10 : Int32)) → (¬ i7 < 0 ∧ i7.toNatClampNeg * 4 ≤ 536870912 ∧ 1 ≤ nc ∧ i7.toNatClampNeg ≤ ns ∧ ∀ q8 : Nat, q8 ∉ wL w → (Q (some q8) (sR (bw_new w q8 100 i7.toNatClampNeg) x0 1 (some q8)))))) ∧ (¬ (wR w x0 1) = (some e0) → (wb_Al_grow2_20 e0 mi Q x0 x1 i4 w nc ns)))))))
set_option maxHeartbeats 4000000 in
set_option maxRecDepth 100000 in
theorem k_Al_grow2_0 {p : Program} {l : Launch} {e : Env} {s : State} {m : MethodId} {args : Array Value} {below : List Frame} {meth : Method} {c : Code} {D : va_G} {AC : Nat → ClassId} {e0 mi : Nat} {A : Nat → Prop} {mc ms : Nat} {Q : Option Nat → Wd → Prop} (C : Cx p l s m args meth c D AC e0 mi A n_Al_grow2 b_Al_grow2 4 (some (.array (.object "java/lang/Object")))) (x0 : Nat) (x1 : Int32) (w : Wd) (nc ns : Nat) (hq : wp_Al_grow2 e0 mi x0 x1 w nc ns Q) : ∀ (H : Heap) (locs : List Loc) (cells slots : Nat) (ls : Array Slot), HW D cls8 FTc AC A s.heap H locs w → lv_has ls 4 [(0, va_rf (some x0)), (1, .int x1)] → cells + nc ≤ mc → slots + ns ≤ ms → W p l e { frames := 3, cells := mc, slots := ms, locals := 84 } s m args below meth c H locs cells slots (vx_MQ below (QQ D AC A (fun v w9 => ∃ r9 : Option Nat, v = some (va_rf r9) ∧ Q r9 w9)) (XX D AC A (fun _ _ => False)) args s mc ms A) (F0 m 0 ls []) := by
  obtain ⟨hl0, hx, hb, hr, ht, hown, hlocks, hnm, hml, hex, hK, hA, hZ, hV⟩ := id C
  intro H locs cells slots ls hW hl hc hs
  unfold wp_Al_grow2 at hq
  refine bw_aload_n hx hb d_Al_grow2_0 rfl (lv_at hl 0 rfl) ?_
  obtain ⟨t1, hq⟩ := hq
  refine bw_getR hx hb ht in_Al hown hK hW rfl t1 (by decide) rfl 1 (by decide) rfl (ht _ m_47) (fun _ h => h) d_Al_grow2_1 ?_
  obtain ⟨n2, h3, hq⟩ := hq
  refine bw_alenq C hW h3 d_Al_grow2_4 ?_
  refine lv_topi (fun i4 ei4 => ?_)
  have hq := hq i4 ei4
  refine lv_istore_n (i := 2) (lv' := [(2, .int i4), (0, va_rf (some x0)), (1, .int x1)]) hx hb d_Al_grow2_5 rfl hl (by decide) (by simp [bw_cat, cat_i, cat_j]) (fun ls hl => ?_)
  refine lv_iload_n hx hb d_Al_grow2_6 rfl (lv_at hl 0 rfl) ?_
  refine lv_if_gt (tgt := 20) hx hb d_Al_grow2_7 (by decide) (fun c5 => ?_) (fun c5 => ?_)
  · have hq := hq.1 c5
    exact k_Al_grow2_20 C  _ _ _ _ _ _ hq _ _ _ _ _ hW (lv_sub hl [1, 2, 0] rfl) hc hs
  · have hq := hq.2 c5
    refine bw_aload_n hx hb d_Al_grow2_10 rfl (lv_at hl 1 rfl) ?_
    refine bw_getR hx hb ht in_Al hown hK hW rfl t1 (by decide) rfl 1 (by decide) rfl (ht _ m_47) (fun _ h => h) d_Al_grow2_11 ?_
    refine va_gets hx hb hZ.2.2.1 hW.2.2 hown (ht _ m_45) (fun _ h => h) d_Al_grow2_14 ?_
    refine W.eq (g2 := F0 m 17 ls [va_rf (some e0), va_rf (wR w x0 1)]) rfl ?_
    refine lv_acmp_eq (tgt := 45) hx hb d_Al_grow2_17 (by decide) (fun c6 => ?_) (fun c6 => ?_)
    · have hq := hq.1 c6
      refine bw_aload_n hx hb d_Al_grow2_45 rfl (lv_at hl 1 rfl) ?_
      refine lv_bipush (v := 10) hx hb d_Al_grow2_46 (by decide) ?_
      refine lv_iload_n hx hb d_Al_grow2_48 rfl (lv_at hl 2 rfl) ?_
      refine va_mmax hx hb (by rw [hml]; exact hl.1.symm) hown (ht _ m_332) (ht _ m_294) (ht _ m_14) (ht _ m_295) (Nat.le_of_ble_eq_true rfl) (by simp [bw_cat, cat_i, cat_j]) (Nat.le_trans (Nat.le_add_right _ _) hc) (Nat.le_trans (Nat.le_add_right _ _) hs) d_Al_grow2_49 ?_
      refine lv_topi (fun i7 ei7 => ?_)
      have hq := hq i7 ei7
      obtain ⟨h9, h12, h10, h11, hq⟩ := hq
      refine bw_newq C hW m_333 h9 h12 (Nat.le_trans (Nat.add_le_add_left h10 _) hc) (Nat.le_trans (Nat.add_le_add_left h11 _) hs) d_Al_grow2_52 (fun q8 H n13 hW => ?_)
      have hq := hq q8 n13
      have hc := bw_bud hc h10
      have hs := bw_bud hs h11
      have t1 := bw_is_new (kd := 100) (n := i7.toNatClampNeg) n13 t1
      have t14 : bw_is (bw_new w q8 100 i7.toNatClampNeg) q8 100 := bw_is_self _ _ _ _
      refine lv_dup_x1 hx hb d_Al_grow2_55 (bw_cat _) (bw_cat _) ?_
      refine bw_putR hx hb ht in_Al y_Al yk_Al nm_Al hown hK hW rfl t1 (by decide) rfl 1 (by decide) rfl (ht _ m_47) (fun _ h => h) (Or.inl rfl) (bw_nra _ _) (bw_fra _ _) d_Al_grow2_56 (fun H locs hW => ?_)
      exact bw_aret C (Or.inr ⟨_, rfl⟩) hW ⟨_, rfl, hq⟩ d_Al_grow2_59 (Nat.le_trans (Nat.le_add_right _ _) hc) (Nat.le_trans (Nat.le_add_right _ _) hs)
    · have hq := hq.2 c6
      exact k_Al_grow2_20 C  _ _ _ _ _ _ hq _ _ _ _ _ hW (lv_sub hl [1, 2, 0] rfl) hc hs
theorem ci_Al_grow2 : CI n_Al_grow2 b_Al_grow2 4 (some (.array (.object "java/lang/Object"))) 1 := ⟨m_289, m_4, by decide, by decide, by decide +kernel⟩
theorem sel_Al_grow2 : Cond.selects "java/util/ArrayList" n_Al_grow2 n_Al_grow2 ∈ TBL := List.mem_filter.mpr ⟨List.mem_append_left _ (List.mem_map.mpr ⟨(n_Al_grow2, 3), by decide +kernel, rfl⟩), rfl⟩
theorem c_Al_grow2 {l : Launch} {D : va_G} {AC : Nat → ClassId} {e0 mi : Nat} {Q : Option Nat → Wd → Prop} (hl0 : l.stackTraces = false) (x0 : Nat) (x1 : Int32) (w : Wd) (nc ns : Nat) (hq : wp_Al_grow2 e0 mi x0 x1 w nc ns Q) : Ct l D AC e0 mi n_Al_grow2 (wy n_Al_grow2 b_Al_grow2 4 (some (.array (.object "java/lang/Object")))) 3 84 [va_rf (some x0), .int x1] w nc ns (fun v w9 => ∃ r9 : Option Nat, v = some (va_rf r9) ∧ Q r9 w9) (fun _ _ => False) :=
  Ct.of hl0 (by decide) (by simp [lg_sl, bw_cat, cat_i, cat_j]) (fun p e s m args below meth c A ls C hW hl => k_Al_grow2_0 C x0 x1 w nc ns hq s.heap [] 0 0 ls hW (by simpa [lv_args, bw_cat, cat_i, cat_j] using hl) (Nat.le_of_eq (Nat.zero_add _)) (Nat.le_of_eq (Nat.zero_add _)))
def wp_Al_grow (e0 mi : Nat) (x0 : Nat) (w : Wd) (nc ns : Nat) (Q : Option Nat → Wd → Prop) : Prop :=
  bw_is w x0 7 ∧ (∃ k4 k5 : Nat, k4 ≤ nc ∧ k5 ≤ ns ∧ wp_Al_grow2 e0 mi x0 ((wI w x0 2) + (1 : Int32)) w k4 k5 (fun r8 w3 => Q r8 w3))
set_option maxHeartbeats 4000000 in
set_option maxRecDepth 100000 in
theorem k_Al_grow_0 {p : Program} {l : Launch} {e : Env} {s : State} {m : MethodId} {args : Array Value} {below : List Frame} {meth : Method} {c : Code} {D : va_G} {AC : Nat → ClassId} {e0 mi : Nat} {A : Nat → Prop} {mc ms : Nat} {Q : Option Nat → Wd → Prop} (C : Cx p l s m args meth c D AC e0 mi A n_Al_grow b_Al_grow 1 (some (.array (.object "java/lang/Object")))) (x0 : Nat) (w : Wd) (nc ns : Nat) (hq : wp_Al_grow e0 mi x0 w nc ns Q) : ∀ (H : Heap) (locs : List Loc) (cells slots : Nat) (ls : Array Slot), HW D cls8 FTc AC A s.heap H locs w → lv_has ls 1 [(0, va_rf (some x0))] → cells + nc ≤ mc → slots + ns ≤ ms → W p l e { frames := 4, cells := mc, slots := ms, locals := 107 } s m args below meth c H locs cells slots (vx_MQ below (QQ D AC A (fun v w9 => ∃ r9 : Option Nat, v = some (va_rf r9) ∧ Q r9 w9)) (XX D AC A (fun _ _ => False)) args s mc ms A) (F0 m 0 ls []) := by
  obtain ⟨hl0, hx, hb, hr, ht, hown, hlocks, hnm, hml, hex, hK, hA, hZ, hV⟩ := id C
  intro H locs cells slots ls hW hl hc hs
  unfold wp_Al_grow at hq
  refine bw_aload_n hx hb d_Al_grow_0 rfl (lv_at hl 0 rfl) ?_
  refine bw_aload_n hx hb d_Al_grow_1 rfl (lv_at hl 0 rfl) ?_
  obtain ⟨t1, hq⟩ := hq
  refine bw_getI hx hb ht in_Al hown hK hW rfl t1 (by decide) rfl 2 (by decide) rfl (ht _ m_48) (fun _ h => h) d_Al_grow_2 ?_
  refine lv_iconst (v := 1) hx hb d_Al_grow_5 (by decide) ?_
  refine lv_iadd hx hb d_Al_grow_6 ?_
  obtain ⟨k4, k5, h6, h7, hq⟩ := hq
  refine bw_callV (As := [.int ((wI w x0 2) + (1 : Int32))]) (rest := []) C hW ci_Al_grow2 m_286 m_288 sel_Al_grow2 d_Al_grow_7 rfl t1 (by decide) rfl rfl rfl hl.1 (by decide) ⟨Nat.le_of_ble_eq_true rfl, Nat.le_of_ble_eq_true rfl⟩ ⟨Nat.le_trans (Nat.add_le_add_left h6 _) hc, Nat.le_trans (Nat.add_le_add_left h7 _) hs⟩ (c_Al_grow2 hl0 _ _ _ _ _ hq) (fun _ _ _ _ _ _ h => h.elim) (fun v2 w3 H locs hv hW => ?_)
  obtain ⟨r8, rfl, hq⟩ := hv
  have hc := bw_bud hc h6
  have hs := bw_bud hs h7
  refine W.eq (g2 := F0 m 10 ls [va_rf r8]) rfl ?_
  exact bw_aret C (Or.inr ⟨_, rfl⟩) hW ⟨_, rfl, hq⟩ d_Al_grow_10 (Nat.le_trans (Nat.le_add_right _ _) hc) (Nat.le_trans (Nat.le_add_right _ _) hs)
theorem ci_Al_grow : CI n_Al_grow b_Al_grow 1 (some (.array (.object "java/lang/Object"))) 0 := ⟨m_285, m_4, by decide, by decide, by decide +kernel⟩
theorem sel_Al_grow : Cond.selects "java/util/ArrayList" n_Al_grow n_Al_grow ∈ TBL := List.mem_filter.mpr ⟨List.mem_append_left _ (List.mem_map.mpr ⟨(n_Al_grow, 3), by decide +kernel, rfl⟩), rfl⟩
theorem c_Al_grow {l : Launch} {D : va_G} {AC : Nat → ClassId} {e0 mi : Nat} {Q : Option Nat → Wd → Prop} (hl0 : l.stackTraces = false) (x0 : Nat) (w : Wd) (nc ns : Nat) (hq : wp_Al_grow e0 mi x0 w nc ns Q) : Ct l D AC e0 mi n_Al_grow (wy n_Al_grow b_Al_grow 1 (some (.array (.object "java/lang/Object")))) 4 107 [va_rf (some x0)] w nc ns (fun v w9 => ∃ r9 : Option Nat, v = some (va_rf r9) ∧ Q r9 w9) (fun _ _ => False) :=
  Ct.of hl0 (by decide) (by simp [lg_sl, bw_cat, cat_i, cat_j]) (fun p e s m args below meth c A ls C hW hl => k_Al_grow_0 C x0 w nc ns hq s.heap [] 0 0 ls hW (by simpa [lv_args, bw_cat, cat_i, cat_j] using hl) (Nat.le_of_eq (Nat.zero_add _)) (Nat.le_of_eq (Nat.zero_add _)))
def wb_Al_add2_11 (e0 mi : Nat) (Q : Wd → Prop) (x0 : Nat) (x1 : Option Nat) (x2 : Option Nat) (x3 : Int32) (w : Wd) (nc ns : Nat) : Prop :=
  ∃ a1 : Nat, x2 = some a1 ∧ (bw_is w a1 100 ∧ (vp_in x3 (wN w a1) ∧ (∀ b5, x1 = some b5 → ∃ cn, bw_is w b5 cn ∧ cn < 6 ∧ cn ≠ 5) ∧ (bw_is (sR w a1 x3.toNatClampNeg x1) x0 7 ∧ (Q (sI (sR w a1 x3.toNatClampNeg x1) x0 2 (x3 + (1 : Int32)))))))
set_option maxHeartbeats 4000000 in
set_option maxRecDepth 100000 in
theorem k_Al_add2_11 {p : Program} {l : Launch} {e : Env} {s : State} {m : MethodId} {args : Array Value} {below : List Frame} {meth : Method} {c : Code} {D : va_G} {AC : Nat → ClassId} {e0 mi : Nat} {A : Nat → Prop} {mc ms : Nat} {Q : Wd → Prop} (C : Cx p l s m args meth c D AC e0 mi A n_Al_add2 b_Al_add2 4 none) (x0 : Nat) (x1 : Option Nat) (x2 : Option Nat) (x3 : Int32) (w : Wd) (nc ns : Nat) (hq : wb_Al_add2_11 e0 mi Q x0 x1 x2 x3 w nc ns) : ∀ (H : Heap) (locs : List Loc) (cells slots : Nat) (ls : Array Slot), HW D cls8 FTc AC A s.heap H locs w → lv_has ls 4 [(0, va_rf (some x0)), (1, va_rf x1), (2, va_rf x2), (3, .int x3)] → cells + nc ≤ mc → slots + ns ≤ ms → W p l e { frames := 5, cells := mc, slots := ms, locals := 127 } s m args below meth c H locs cells slots (vx_MQ below (QQ D AC A (fun v w9 => v = none ∧ Q w9)) (XX D AC A (fun _ _ => False)) args s mc ms A) (F0 m 11 ls []) := by
  obtain ⟨hl0, hx, hb, hr, ht, hown, hlocks, hnm, hml, hex, hK, hA, hZ, hV⟩ := id C
  intro H locs cells slots ls hW hl hc hs
  unfold wb_Al_add2_11 at hq
  refine bw_aload_n hx hb d_Al_add2_11 rfl (lv_at hl 2 rfl) ?_
  refine lv_iload_n hx hb d_Al_add2_12 rfl (lv_at hl 3 rfl) ?_
  refine bw_aload_n hx hb d_Al_add2_13 rfl (lv_at hl 1 rfl) ?_
  obtain ⟨a1, ea1, hq⟩ := hq
  obtain ⟨t2, hq⟩ := hq
  obtain ⟨h3, hq⟩ := hq
  obtain ⟨h4, hq⟩ := hq
  refine bw_aast C hW ea1 t2 h3 h4 d_Al_add2_14 (fun H locs hW => ?_)
  refine bw_aload_n hx hb d_Al_add2_15 rfl (lv_at hl 0 rfl) ?_
  refine lv_iload_n hx hb d_Al_add2_16 rfl (lv_at hl 3 rfl) ?_
  refine lv_iconst (v := 1) hx hb d_Al_add2_17 (by decide) ?_
  refine lv_iadd hx hb d_Al_add2_18 ?_
  obtain ⟨t6, hq⟩ := hq
  refine bw_putI hx hb ht in_Al y_Al yk_Al nm_Al hown hK hW rfl t6 (by decide) rfl 2 (by decide) rfl (ht _ m_48) (fun _ h => h) (Or.inl rfl) rfl rfl d_Al_add2_19 (fun H locs hW => ?_)
  exact bw_vret C hW ⟨rfl, hq⟩ d_Al_add2_22 (Nat.le_trans (Nat.le_add_right _ _) hc) (Nat.le_trans (Nat.le_add_right _ _) hs)
def wp_Al_add2 (e0 mi : Nat) (x0 : Nat) (x1 : Option Nat) (x2 : Option Nat) (x3 : Int32) (w : Wd) (nc ns : Nat) (Q : Wd → Prop) : Prop :=
  ∃ n1 : Nat, bw_len e0 w x2 n1 ∧ ((¬ x3 = (nI n1) → (wb_Al_add2_11 e0 mi Q x0 x1 x2 x3 w nc ns)) ∧ (x3 = (nI n1) → (bw_is w x0 7 ∧ (∃ k7 k8 : Nat, k7 ≤ nc ∧ k8 ≤ ns ∧ wp_Al_grow e0 mi x0 w k7 k8 (fun r11 w6 => wb_Al_add2_11 e0 mi Q x0 x1 r11 x3 w6 (nc - k7) (ns - k8))))))
set_option maxHeartbeats 4000000 in
set_option maxRecDepth 100000 in
theorem k_Al_add2_0 {p : Program} {l : Launch} {e : Env} {s : State} {m : MethodId} {args : Array Value} {below : List Frame} {meth : Method} {c : Code} {D : va_G} {AC : Nat → ClassId} {e0 mi : Nat} {A : Nat → Prop} {mc ms : Nat} {Q : Wd → Prop} (C : Cx p l s m args meth c D AC e0 mi A n_Al_add2 b_Al_add2 4 none) (x0 : Nat) (x1 : Option Nat) (x2 : Option Nat) (x3 : Int32) (w : Wd) (nc ns : Nat) (hq : wp_Al_add2 e0 mi x0 x1 x2 x3 w nc ns Q) : ∀ (H : Heap) (locs : List Loc) (cells slots : Nat) (ls : Array Slot), HW D cls8 FTc AC A s.heap H locs w → lv_has ls 4 [(0, va_rf (some x0)), (1, va_rf x1), (2, va_rf x2), (3, .int x3)] → cells + nc ≤ mc → slots + ns ≤ ms → W p l e { frames := 5, cells := mc, slots := ms, locals := 127 } s m args below meth c H locs cells slots (vx_MQ below (QQ D AC A (fun v w9 => v = none ∧ Q w9)) (XX D AC A (fun _ _ => False)) args s mc ms A) (F0 m 0 ls []) := by
  obtain ⟨hl0, hx, hb, hr, ht, hown, hlocks, hnm, hml, hex, hK, hA, hZ, hV⟩ := id C
  intro H locs cells slots ls hW hl hc hs
  unfold wp_Al_add2 at hq
  refine lv_iload_n hx hb d_Al_add2_0 rfl (lv_at hl 3 rfl) ?_
  refine bw_aload_n hx hb d_Al_add2_1 rfl (lv_at hl 2 rfl) ?_
  obtain ⟨n1, h2, hq⟩ := hq
  refine bw_alenq C hW h2 d_Al_add2_2 ?_
  refine lv_icmp_ne (tgt := 11) hx hb d_Al_add2_3 (by decide) (fun c3 => ?_) (fun c3 => ?_)
  · have hq := hq.1 c3
    exact k_Al_add2_11 C  _ _ _ _ _ _ _ hq _ _ _ _ _ hW (lv_sub hl [0, 1, 2, 3] rfl) hc hs
  · have hq := hq.2 c3
    refine bw_aload_n hx hb d_Al_add2_6 rfl (lv_at hl 0 rfl) ?_
    obtain ⟨t4, hq⟩ := hq
    obtain ⟨k7, k8, h9, h10, hq⟩ := hq
    refine bw_callV (As := []) (rest := []) C hW ci_Al_grow m_282 m_284 sel_Al_grow d_Al_add2_7 rfl t4 (by decide) rfl rfl rfl hl.1 (by decide) ⟨Nat.le_of_ble_eq_true rfl, Nat.le_of_ble_eq_true rfl⟩ ⟨Nat.le_trans (Nat.add_le_add_left h9 _) hc, Nat.le_trans (Nat.add_le_add_left h10 _) hs⟩ (c_Al_grow hl0 _ _ _ _ hq) (fun _ _ _ _ _ _ h => h.elim) (fun v5 w6 H locs hv hW => ?_)
    obtain ⟨r11, rfl, hq⟩ := hv
    have hc := bw_bud hc h9
    have hs := bw_bud hs h10
    refine W.eq (g2 := F0 m 10 ls [va_rf r11]) rfl ?_
    refine bw_astore_n (i := 2) (lv' := [(2, va_rf r11), (0, va_rf (some x0)), (1, va_rf x1), (3, .int x3)]) hx hb d_Al_add2_10 rfl hl (by decide) (by simp [bw_cat, cat_i, cat_j]) (fun ls hl => ?_)
    exact k_Al_add2_11 C  _ _ _ _ _ _ _ hq _ _ _ _ _ hW (lv_sub hl [1, 2, 0, 3] rfl) hc hs
theorem ci_Al_add2 : CI n_Al_add2 b_Al_add2 4 none 3 := ⟨m_281, m_4, by decide, by decide, by decide +kernel⟩
theorem sel_Al_add2 : Cond.selects "java/util/ArrayList" n_Al_add2 n_Al_add2 ∈ TBL := List.mem_filter.mpr ⟨List.mem_append_left _ (List.mem_map.mpr ⟨(n_Al_add2, 3), by decide +kernel, rfl⟩), rfl⟩
theorem c_Al_add2 {l : Launch} {D : va_G} {AC : Nat → ClassId} {e0 mi : Nat} {Q : Wd → Prop} (hl0 : l.stackTraces = false) (x0 : Nat) (x1 : Option Nat) (x2 : Option Nat) (x3 : Int32) (w : Wd) (nc ns : Nat) (hq : wp_Al_add2 e0 mi x0 x1 x2 x3 w nc ns Q) : Ct l D AC e0 mi n_Al_add2 (wy n_Al_add2 b_Al_add2 4 none) 5 127 [va_rf (some x0), va_rf x1, va_rf x2, .int x3] w nc ns (fun v w9 => v = none ∧ Q w9) (fun _ _ => False) :=
  Ct.of hl0 (by decide) (by simp [lg_sl, bw_cat, cat_i, cat_j]) (fun p e s m args below meth c A ls C hW hl => k_Al_add2_0 C x0 x1 x2 x3 w nc ns hq s.heap [] 0 0 ls hW (by simpa [lv_args, bw_cat, cat_i, cat_j] using hl) (Nat.le_of_eq (Nat.zero_add _)) (Nat.le_of_eq (Nat.zero_add _)))
def wp_Al_add (e0 mi : Nat) (x0 : Nat) (x1 : Option Nat) (w : Wd) (nc ns : Nat) (Q : Int32 → Wd → Prop) : Prop :=
  bw_is w x0 7 ∧ (∃ k4 k5 : Nat, k4 ≤ nc ∧ k5 ≤ ns ∧ wp_Al_add2 e0 mi x0 x1 (wR (sI w x0 0 ((wI w x0 0) + (1 : Int32))) x0 1) (wI (sI w x0 0 ((wI w x0 0) + (1 : Int32))) x0 2) (sI w x0 0 ((wI w x0 0) + (1 : Int32))) k4 k5 (fun w3 => Q (1 : Int32) w3))
set_option maxHeartbeats 4000000 in
set_option maxRecDepth 100000 in
theorem k_Al_add_0 {p : Program} {l : Launch} {e : Env} {s : State} {m : MethodId} {args : Array Value} {below : List Frame} {meth : Method} {c : Code} {D : va_G} {AC : Nat → ClassId} {e0 mi : Nat} {A : Nat → Prop} {mc ms : Nat} {Q : Int32 → Wd → Prop} (C : Cx p l s m args meth c D AC e0 mi A n_Al_add b_Al_add 2 (some .boolean)) (x0 : Nat) (x1 : Option Nat) (w : Wd) (nc ns : Nat) (hq : wp_Al_add e0 mi x0 x1 w nc ns Q) : ∀ (H : Heap) (locs : List Loc) (cells slots : Nat) (ls : Array Slot), HW D cls8 FTc AC A s.heap H locs w → lv_has ls 2 [(0, va_rf (some x0)), (1, va_rf x1)] → cells + nc ≤ mc → slots + ns ≤ ms → W p l e { frames := 6, cells := mc, slots := ms, locals := 150 } s m args below meth c H locs cells slots (vx_MQ below (QQ D AC A (fun v w9 => ∃ r9 : Int32, v = some (.int r9) ∧ Q r9 w9)) (XX D AC A (fun _ _ => False)) args s mc ms A) (F0 m 0 ls []) := by
  obtain ⟨hl0, hx, hb, hr, ht, hown, hlocks, hnm, hml, hex, hK, hA, hZ, hV⟩ := id C
  intro H locs cells slots ls hW hl hc hs
  unfold wp_Al_add at hq
  refine bw_aload_n hx hb d_Al_add_0 rfl (lv_at hl 0 rfl) ?_
  refine lv_dup hx hb d_Al_add_1 (bw_cat _) ?_
  obtain ⟨t1, hq⟩ := hq
  refine bw_getI hx hb ht in_Al hown hK hW rfl t1 (by decide) rfl 0 (by decide) rfl (ht _ m_50) (u_same (ht _ m_51)) d_Al_add_2 ?_
  refine lv_iconst (v := 1) hx hb d_Al_add_5 (by decide) ?_
  refine lv_iadd hx hb d_Al_add_6 ?_
  refine bw_putI hx hb ht in_Al y_Al yk_Al nm_Al hown hK hW rfl t1 (by decide) rfl 0 (by decide) rfl (ht _ m_50) (u_same (ht _ m_51)) (Or.inl rfl) rfl rfl d_Al_add_7 (fun H locs hW => ?_)
  refine bw_aload_n hx hb d_Al_add_10 rfl (lv_at hl 0 rfl) ?_
  refine bw_aload_n hx hb d_Al_add_11 rfl (lv_at hl 1 rfl) ?_
  refine bw_aload_n hx hb d_Al_add_12 rfl (lv_at hl 0 rfl) ?_
  refine bw_getR hx hb ht in_Al hown hK hW rfl t1 (by decide) rfl 1 (by decide) rfl (ht _ m_47) (fun _ h => h) d_Al_add_13 ?_
  refine bw_aload_n hx hb d_Al_add_16 rfl (lv_at hl 0 rfl) ?_
  refine bw_getI hx hb ht in_Al hown hK hW rfl t1 (by decide) rfl 2 (by decide) rfl (ht _ m_48) (fun _ h => h) d_Al_add_17 ?_
  obtain ⟨k4, k5, h6, h7, hq⟩ := hq
  refine bw_callV (As := [va_rf x1, va_rf (wR (sI w x0 0 ((wI w x0 0) + (1 : Int32))) x0 1), .int (wI (sI w x0 0 ((wI w x0 0) + (1 : Int32))) x0 2)]) (rest := []) C hW ci_Al_add2 m_278 m_280 sel_Al_add2 d_Al_add_20 rfl t1 (by decide) rfl rfl rfl hl.1 (by decide) ⟨Nat.le_of_ble_eq_true rfl, Nat.le_of_ble_eq_true rfl⟩ ⟨Nat.le_trans (Nat.add_le_add_left h6 _) hc, Nat.le_trans (Nat.add_le_add_left h7 _) hs⟩ (c_Al_add2 hl0 _ _ _ _ _ _ _ hq) (fun _ _ _ _ _ _ h => h.elim) (fun v2 w3 H locs hv hW => ?_)
  obtain ⟨rfl, hq⟩ := hv
  have hc := bw_bud hc h6
  have hs := bw_bud hs h7
  refine W.eq (g2 := F0 m 23 ls []) rfl ?_
  refine lv_iconst (v := 1) hx hb d_Al_add_23 (by decide) ?_
  exact bw_zret C hW rfl ⟨_, rfl, hq⟩ d_Al_add_24 (Nat.le_trans (Nat.le_add_right _ _) hc) (Nat.le_trans (Nat.le_add_right _ _) hs)
theorem ci_Al_add : CI n_Al_add b_Al_add 2 (some .boolean) 1 := ⟨m_277, m_4, by decide, by decide, by decide +kernel⟩
theorem c_Al_add {l : Launch} {D : va_G} {AC : Nat → ClassId} {e0 mi : Nat} {Q : Int32 → Wd → Prop} (hl0 : l.stackTraces = false) (x0 : Nat) (x1 : Option Nat) (w : Wd) (nc ns : Nat) (hq : wp_Al_add e0 mi x0 x1 w nc ns Q) : Ct l D AC e0 mi n_Al_add (wy n_Al_add b_Al_add 2 (some .boolean)) 6 150 [va_rf (some x0), va_rf x1] w nc ns (fun v w9 => ∃ r9 : Int32, v = some (.int r9) ∧ Q r9 w9) (fun _ _ => False) :=
  Ct.of hl0 (by decide) (by simp [lg_sl, bw_cat, cat_i, cat_j]) (fun p e s m args below meth c A ls C hW hl => k_Al_add_0 C x0 x1 w nc ns hq s.heap [] 0 0 ls hW (by simpa [lv_args, bw_cat, cat_i, cat_j] using hl) (Nat.le_of_eq (Nat.zero_add _)) (Nat.le_of_eq (Nat.zero_add _)))
def wp_Al_set (e0 mi : Nat) (x0 : Nat) (x1 : Int32) (x2 : Option Nat) (w : Wd) (Q : Option Nat → Wd → Prop) : Prop :=
  bw_is w x0 7 ∧ (wp_Ob_checkIndex e0 mi x1 (wI w x0 2) w (fun i8 w3 => bw_is w3 x0 7 ∧ (wp_Al_elementData e0 mi x0 x1 w3 (fun r16 w11 => bw_is w11 x0 7 ∧ (∃ a18 : Nat, (wR w11 x0 1) = some a18 ∧ (bw_is w11 a18 100 ∧ (vp_in x1 (wN w11 a18) ∧ (∀ b22, x2 = some b22 → ∃ cn, bw_is w11 b22 cn ∧ cn < 6 ∧ cn ≠ 5) ∧ (Q r16 (sR w11 a18 x1.toNatClampNeg x2)))))))))
set_option maxHeartbeats 4000000 in
set_option maxRecDepth 100000 in
theorem k_Al_set_0 {p : Program} {l : Launch} {e : Env} {s : State} {m : MethodId} {args : Array Value} {below : List Frame} {meth : Method} {c : Code} {D : va_G} {AC : Nat → ClassId} {e0 mi : Nat} {A : Nat → Prop} {mc ms : Nat} {Q : Option Nat → Wd → Prop} (C : Cx p l s m args meth c D AC e0 mi A n_Al_set b_Al_set 4 (some (.object "java/lang/Object"))) (x0 : Nat) (x1 : Int32) (x2 : Option Nat) (w : Wd) (hq : wp_Al_set e0 mi x0 x1 x2 w Q) : ∀ (H : Heap) (locs : List Loc) (cells slots : Nat) (ls : Array Slot), HW D cls8 FTc AC A s.heap H locs w → lv_has ls 4 [(0, va_rf (some x0)), (1, .int x1), (2, va_rf x2)] → cells ≤ mc → slots ≤ ms → W p l e { frames := 2, cells := mc, slots := ms, locals := 43 } s m args below meth c H locs cells slots (vx_MQ below (QQ D AC A (fun v w9 => ∃ r9 : Option Nat, v = some (va_rf r9) ∧ Q r9 w9)) (XX D AC A (fun _ _ => False)) args s mc ms A) (F0 m 0 ls []) := by
  obtain ⟨hl0, hx, hb, hr, ht, hown, hlocks, hnm, hml, hex, hK, hA, hZ, hV⟩ := id C
  intro H locs cells slots ls hW hl hc hs
  unfold wp_Al_set at hq
  refine lv_iload_n hx hb d_Al_set_0 rfl (lv_at hl 1 rfl) ?_
  refine bw_aload_n hx hb d_Al_set_1 rfl (lv_at hl 0 rfl) ?_
  obtain ⟨t1, hq⟩ := hq
  refine bw_getI hx hb ht in_Al hown hK hW rfl t1 (by decide) rfl 2 (by decide) rfl (ht _ m_48) (fun _ h => h) d_Al_set_2 ?_
  refine bw_callS (As := [.int x1, .int (wI w x0 2)]) (rest := []) C hW ci_Ob_checkIndex m_103 m_104 d_Al_set_5 rfl rfl hl.1 (by decide) ⟨Nat.le_of_ble_eq_true rfl, Nat.le_of_ble_eq_true rfl⟩ ⟨hc, hs⟩ (c_Ob_checkIndex hl0 _ _ _ hq) (fun _ _ _ _ _ _ h => h.elim) (fun v2 w3 H locs hv hW => ?_)
  obtain ⟨i8, rfl, hq⟩ := hv
  refine W.eq (g2 := F0 m 8 ls [.int i8]) rfl ?_
  refine lv_pop hx hb d_Al_set_8 rfl ?_
  refine bw_aload_n hx hb d_Al_set_9 rfl (lv_at hl 0 rfl) ?_
  refine lv_iload_n hx hb d_Al_set_10 rfl (lv_at hl 1 rfl) ?_
  obtain ⟨t9, hq⟩ := hq
  refine bw_callV (As := [.int x1]) (rest := []) C hW ci_Al_elementData m_109 m_110 m_111 d_Al_set_11 rfl t9 (by decide) rfl rfl rfl hl.1 (by decide) ⟨Nat.le_of_ble_eq_true rfl, Nat.le_of_ble_eq_true rfl⟩ ⟨hc, hs⟩ (c_Al_elementData hl0 _ _ _ hq) (fun _ _ _ _ _ _ h => h.elim) (fun v10 w11 H locs hv hW => ?_)
  obtain ⟨r16, rfl, hq⟩ := hv
  refine W.eq (g2 := F0 m 14 ls [va_rf r16]) rfl ?_
  refine bw_astore_n (i := 3) (lv' := [(3, va_rf r16), (0, va_rf (some x0)), (1, .int x1), (2, va_rf x2)]) hx hb d_Al_set_14 rfl hl (by decide) (by simp [bw_cat, cat_i, cat_j]) (fun ls hl => ?_)
  refine bw_aload_n hx hb d_Al_set_15 rfl (lv_at hl 1 rfl) ?_
  obtain ⟨t17, hq⟩ := hq
  refine bw_getR hx hb ht in_Al hown hK hW rfl t17 (by decide) rfl 1 (by decide) rfl (ht _ m_47) (fun _ h => h) d_Al_set_16 ?_
  refine lv_iload_n hx hb d_Al_set_19 rfl (lv_at hl 2 rfl) ?_
  refine bw_aload_n hx hb d_Al_set_20 rfl (lv_at hl 3 rfl) ?_
  obtain ⟨a18, ea18, hq⟩ := hq
  obtain ⟨t19, hq⟩ := hq
  obtain ⟨h20, hq⟩ := hq
  obtain ⟨h21, hq⟩ := hq
  refine bw_aast C hW ea18 t19 h20 h21 d_Al_set_21 (fun H locs hW => ?_)
  refine bw_aload_n hx hb d_Al_set_22 rfl (lv_at hl 0 rfl) ?_
  exact bw_aret C (Or.inl ⟨_, rfl⟩) hW ⟨_, rfl, hq⟩ d_Al_set_23 hc hs
theorem ci_Al_set : CI n_Al_set b_Al_set 4 (some (.object "java/lang/Object")) 2 := ⟨m_558, m_4, by decide, by decide, by decide +kernel⟩
theorem c_Al_set {l : Launch} {D : va_G} {AC : Nat → ClassId} {e0 mi : Nat} {Q : Option Nat → Wd → Prop} (hl0 : l.stackTraces = false) (x0 : Nat) (x1 : Int32) (x2 : Option Nat) (w : Wd) (hq : wp_Al_set e0 mi x0 x1 x2 w Q) : Ct l D AC e0 mi n_Al_set (wy n_Al_set b_Al_set 4 (some (.object "java/lang/Object"))) 2 43 [va_rf (some x0), .int x1, va_rf x2] w 0 0 (fun v w9 => ∃ r9 : Option Nat, v = some (va_rf r9) ∧ Q r9 w9) (fun _ _ => False) :=
  Ct.of hl0 (by decide) (by simp [lg_sl, bw_cat, cat_i, cat_j]) (fun p e s m args below meth c A ls C hW hl => k_Al_set_0 C x0 x1 x2 w hq s.heap [] 0 0 ls hW (by simpa [lv_args, bw_cat, cat_i, cat_j] using hl) (Nat.le_refl _) (Nat.le_refl _))
def wb_Al_fastRemove_34 (e0 mi : Nat) (Q : Wd → Prop) (x0 : Nat) (x1 : Option Nat) (x2 : Int32) (x3 : Int32) (w : Wd) : Prop :=
  bw_is w x0 7 ∧ (∃ a2 : Nat, x1 = some a2 ∧ (bw_is (sI w x0 2 x3) a2 100 ∧ (vp_in x3 (wN (sI w x0 2 x3) a2) ∧ (∀ b6, none = some b6 → ∃ cn, bw_is (sI w x0 2 x3) b6 cn ∧ cn < 6 ∧ cn ≠ 5) ∧ (Q (sR (sI w x0 2 x3) a2 x3.toNatClampNeg none)))))
set_option maxHeartbeats 4000000 in
set_option maxRecDepth 100000 in
theorem k_Al_fastRemove_34 {p : Program} {l : Launch} {e : Env} {s : State} {m : MethodId} {args : Array Value} {below : List Frame} {meth : Method} {c : Code} {D : va_G} {AC : Nat → ClassId} {e0 mi : Nat} {A : Nat → Prop} {mc ms : Nat} {Q : Wd → Prop} (C : Cx p l s m args meth c D AC e0 mi A n_Al_fastRemove b_Al_fastRemove 4 none) (x0 : Nat) (x1 : Option Nat) (x2 : Int32) (x3 : Int32) (w : Wd) (hq : wb_Al_fastRemove_34 e0 mi Q x0 x1 x2 x3 w) : ∀ (H : Heap) (locs : List Loc) (cells slots : Nat) (ls : Array Slot), HW D cls8 FTc AC A s.heap H locs w → lv_has ls 4 [(0, va_rf (some x0)), (1, va_rf x1), (2, .int x2), (3, .int x3)] → cells ≤ mc → slots ≤ ms → W p l e { frames := 1, cells := mc, slots := ms, locals := 40 } s m args below meth c H locs cells slots (vx_MQ below (QQ D AC A (fun v w9 => v = none ∧ Q w9)) (XX D AC A (fun _ _ => False)) args s mc ms A) (F0 m 34 ls []) := by
  obtain ⟨hl0, hx, hb, hr, ht, hown, hlocks, hnm, hml, hex, hK, hA, hZ, hV⟩ := id C
  intro H locs cells slots ls hW hl hc hs
  unfold wb_Al_fastRemove_34 at hq
  refine bw_aload_n hx hb d_Al_fastRemove_34 rfl (lv_at hl 1 rfl) ?_
  refine bw_aload_n hx hb d_Al_fastRemove_35 rfl (lv_at hl 0 rfl) ?_
  refine lv_iload_n hx hb d_Al_fastRemove_36 rfl (lv_at hl 3 rfl) ?_
  refine lv_dup_x1 hx hb d_Al_fastRemove_37 rfl (bw_cat _) ?_
  obtain ⟨t1, hq⟩ := hq
  refine bw_putI hx hb ht in_Al y_Al yk_Al nm_Al hown hK hW rfl t1 (by decide) rfl 2 (by decide) rfl (ht _ m_48) (fun _ h => h) (Or.inl rfl) rfl rfl d_Al_fastRemove_38 (fun H locs hW => ?_)
  refine bw_null hx hb d_Al_fastRemove_41 ?_
  obtain ⟨a2, ea2, hq⟩ := hq
  obtain ⟨t3, hq⟩ := hq
  obtain ⟨h4, hq⟩ := hq
  obtain ⟨h5, hq⟩ := hq
  refine bw_aast C hW ea2 t3 h4 h5 d_Al_fastRemove_42 (fun H locs hW => ?_)
  exact bw_vret C hW ⟨rfl, hq⟩ d_Al_fastRemove_43 hc hs
def wp_Al_fastRemove (e0 mi : Nat) (x0 : Nat) (x1 : Option Nat) (x2 : Int32) (w : Wd) (Q : Wd → Prop) : Prop :=
  bw_is w x0 7 ∧ (∀ i2 : Int32, i2 = (wI (sI w x0 0 ((wI w x0 0) + (1 : Int32))) x0 2) - (1 : Int32) → ((((wI (sI w x0 0 ((wI w x0 0) + (1 : Int32))) x0 2) - (1 : Int32)) ≤ x2 → (wb_Al_fastRemove_34 e0 mi Q x0 x1 x2 i2 (sI w x0 0 ((wI w x0 0) + (1 : Int32))))) ∧ (¬ ((wI (sI w x0 0 ((wI w x0 0) + (1 : Int32))) x0 2) - (1 : Int32)) ≤ x2 → (∃ a4 : Nat, x1 = some a4 ∧ (bw_is (sI w x0 0 ((wI w x0 0) + (1 : Int32))) a4 100 ∧ (¬ (x2 + (1 : Int32)) < 0 ∧ ¬ x2 < 0 ∧ ¬ (i2 - x2) < 0 ∧ (x2 + (1 : Int32)).toNatClampNeg + (i2 - x2).toNatClampNeg ≤ wN (sI w x0 0 ((wI w x0 0) + (1 : Int32))) a4 ∧ x2.toNatClampNeg + (i2 - x2).toNatClampNeg ≤ wN (sI w x0 0 ((wI w x0 0) + (1 : Int32))) a4 ∧ (∀ i12 : Nat, i12 < (i2 - x2).toNatClampNeg → bw_el (sI w x0 0 ((wI w x0 0) + (1 : Int32))) (wR (sI w x0 0 ((wI w x0 0) + (1 : Int32))) a4 ((x2 + (1 : Int32)).toNatClampNeg + i12))) ∧ (wb_Al_fastRemove_34 e0 mi Q x0 x1 x2 i2 (sRow (sI w x0 0 ((wI w x0 0) + (1 : Int32))) a4 (va_cpy (wR (sI w x0 0 ((wI w x0 0) + (1 : Int32))) a4) (wR (sI w x0 0 ((wI w x0 0) + (1 : Int32))) a4) (x2 + (1 : Int32)).toNatClampNeg x2.toNatClampNeg (i2 - x2).toNatClampNeg)))))))))
set_option maxHeartbeats 4000000 in
set_option maxRecDepth 100000 in
theorem k_Al_fastRemove_0 {p : Program} {l : Launch} {e : Env} {s : State} {m : MethodId} {args : Array Value} {below : List Frame} {meth : Method} {c : Code} {D : va_G} {AC : Nat → ClassId} {e0 mi : Nat} {A : Nat → Prop} {mc ms : Nat} {Q : Wd → Prop} (C : Cx p l s m args meth c D AC e0 mi A n_Al_fastRemove b_Al_fastRemove 4 none) (x0 : Nat) (x1 : Option Nat) (x2 : Int32) (w : Wd) (hq : wp_Al_fastRemove e0 mi x0 x1 x2 w Q) : ∀ (H : Heap) (locs : List Loc) (cells slots : Nat) (ls : Array Slot), HW D cls8 FTc AC A s.heap H locs w → lv_has ls 4 [(0, va_rf (some x0)), (1, va_rf x1), (2, .int x2)] → cells ≤ mc → slots ≤ ms → W p l e { frames := 1, cells := mc, slots := ms, locals := 40 } s m args below meth c H locs cells slots (vx_MQ below (QQ D AC A (fun v w9 => v = none ∧ Q w9)) (XX D AC A (fun _ _ => False)) args s mc ms A) (F0 m 0 ls []) := by
  obtain ⟨hl0, hx, hb, hr, ht, hown, hlocks, hnm, hml, hex, hK, hA, hZ, hV⟩ := id C
  intro H locs cells slots ls hW hl hc hs
  unfold wp_Al_fastRemove at hq
  refine bw_aload_n hx hb d_Al_fastRemove_0 rfl (lv_at hl 0 rfl) ?_
  refine lv_dup hx hb d_Al_fastRemove_1 (bw_cat _) ?_
  obtain ⟨t1, hq⟩ := hq
  refine bw_getI hx hb ht in_Al hown hK hW rfl t1 (by decide) rfl 0 (by decide) rfl (ht _ m_50) (u_same (ht _ m_51)) d_Al_fastRemove_2 ?_
  refine lv_iconst (v := 1) hx hb d_Al_fastRemove_5 (by decide) ?_
  refine lv_iadd hx hb d_Al_fastRemove_6 ?_
  refine bw_putI hx hb ht in_Al y_Al yk_Al nm_Al hown hK hW rfl t1 (by decide) rfl 0 (by decide) rfl (ht _ m_50) (u_same (ht _ m_51)) (Or.inl rfl) rfl rfl d_Al_fastRemove_7 (fun H locs hW => ?_)
  refine bw_aload_n hx hb d_Al_fastRemove_10 rfl (lv_at hl 0 rfl) ?_
  refine bw_getI hx hb ht in_Al hown hK hW rfl t1 (by decide) rfl 2 (by decide) rfl (ht _ m_48) (fun _ h => h) d_Al_fastRemove_11 ?_
  refine lv_iconst (v := 1) hx hb d_Al_fastRemove_14 (by decide) ?_
  refine lv_isub hx hb d_Al_fastRemove_15 ?_
  refine lv_dup hx hb d_Al_fastRemove_16 rfl ?_
  refine lv_topi (fun i2 ei2 => ?_)
  have hq := hq i2 ei2
  refine lv_istore_n (i := 3) (lv' := [(3, .int i2), (0, va_rf (some x0)), (1, va_rf x1), (2, .int x2)]) hx hb d_Al_fastRemove_17 rfl hl (by decide) (by simp [bw_cat, cat_i, cat_j]) (fun ls hl => ?_)
  refine lv_iload_n hx hb d_Al_fastRemove_18 rfl (lv_at hl 3 rfl) ?_
  refine lv_icmp_le (tgt := 34) hx hb d_Al_fastRemove_19 (by decide) (fun c3 => ?_) (fun c3 => ?_)
  · have hq := hq.1 c3
    exact k_Al_fastRemove_34 C  _ _ _ _ _ hq _ _ _ _ _ hW (lv_sub hl [1, 2, 3, 0] rfl) hc hs
  · have hq := hq.2 c3
    refine bw_aload_n hx hb d_Al_fastRemove_22 rfl (lv_at hl 2 rfl) ?_
    refine lv_iload_n hx hb d_Al_fastRemove_23 rfl (lv_at hl 3 rfl) ?_
    refine lv_iconst (v := 1) hx hb d_Al_fastRemove_24 (by decide) ?_
    refine lv_iadd hx hb d_Al_fastRemove_25 ?_
    refine bw_aload_n hx hb d_Al_fastRemove_26 rfl (lv_at hl 2 rfl) ?_
    refine lv_iload_n hx hb d_Al_fastRemove_27 rfl (lv_at hl 3 rfl) ?_
    refine lv_iload_n hx hb d_Al_fastRemove_28 rfl (lv_at hl 0 rfl) ?_
    refine lv_iload_n hx hb d_Al_fastRemove_29 rfl (lv_at hl 3 rfl) ?_
    refine lv_isub hx hb d_Al_fastRemove_30 ?_
    obtain ⟨a4, ea4, hq⟩ := hq
    obtain ⟨t5, hq⟩ := hq
    obtain ⟨h6, h7, h8, h9, h10, h11, hq⟩ := hq
    refine bw_copy C hW hl.1 m_567 m_331 m_330 m_16 ea4 ea4 t5 t5 h6 h7 h8 h9 h10 h11 (Nat.le_of_ble_eq_true rfl) (by exact Nat.le_of_ble_eq_true rfl) d_Al_fastRemove_31 (fun H locs hW => ?_)
    exact k_Al_fastRemove_34 C  _ _ _ _ _ hq _ _ _ _ _ hW (lv_sub hl [1, 2, 3, 0] rfl) hc hs
theorem ci_Al_fastRemove : CI n_Al_fastRemove b_Al_fastRemove 4 none 2 := ⟨m_566, m_4, by decide, by decide, by decide +kernel⟩
theorem sel_Al_fastRemove : Cond.selects "java/util/ArrayList" n_Al_fastRemove n_Al_fastRemove ∈ TBL := List.mem_filter.mpr ⟨List.mem_append_left _ (List.mem_map.mpr ⟨(n_Al_fastRemove, 3), by decide +kernel, rfl⟩), rfl⟩
theorem c_Al_fastRemove {l : Launch} {D : va_G} {AC : Nat → ClassId} {e0 mi : Nat} {Q : Wd → Prop} (hl0 : l.stackTraces = false) (x0 : Nat) (x1 : Option Nat) (x2 : Int32) (w : Wd) (hq : wp_Al_fastRemove e0 mi x0 x1 x2 w Q) : Ct l D AC e0 mi n_Al_fastRemove (wy n_Al_fastRemove b_Al_fastRemove 4 none) 1 40 [va_rf (some x0), va_rf x1, .int x2] w 0 0 (fun v w9 => v = none ∧ Q w9) (fun _ _ => False) :=
  Ct.of hl0 (by decide) (by simp [lg_sl, bw_cat, cat_i, cat_j]) (fun p e s m args below meth c A ls C hW hl => k_Al_fastRemove_0 C x0 x1 x2 w hq s.heap [] 0 0 ls hW (by simpa [lv_args, bw_cat, cat_i, cat_j] using hl) (Nat.le_refl _) (Nat.le_refl _))
def wp_Al_remove (e0 mi : Nat) (x0 : Nat) (x1 : Int32) (w : Wd) (Q : Option Nat → Wd → Prop) : Prop :=
  bw_is w x0 7 ∧ (wp_Ob_checkIndex e0 mi x1 (wI w x0 2) w (fun i8 w3 => bw_is w3 x0 7 ∧ (∀ r10 : Option Nat, r10 = wR w3 x0 1 → (∃ a11 : Nat, r10 = some a11 ∧ (bw_is w3 a11 100 ∧ (vp_in x1 (wN w3 a11) ∧ (∀ r14 : Option Nat, r14 = wR w3 a11 x1.toNatClampNeg → (wp_Al_fastRemove e0 mi x0 r10 x1 w3 (fun w16 => Q r14 w16)))))))))
set_option maxHeartbeats 4000000 in
set_option maxRecDepth 100000 in
theorem k_Al_remove_0 {p : Program} {l : Launch} {e : Env} {s : State} {m : MethodId} {args : Array Value} {below : List Frame} {meth : Method} {c : Code} {D : va_G} {AC : Nat → ClassId} {e0 mi : Nat} {A : Nat → Prop} {mc ms : Nat} {Q : Option Nat → Wd → Prop} (C : Cx p l s m args meth c D AC e0 mi A n_Al_remove b_Al_remove 4 (some (.object "java/lang/Object"))) (x0 : Nat) (x1 : Int32) (w : Wd) (hq : wp_Al_remove e0 mi x0 x1 w Q) : ∀ (H : Heap) (locs : List Loc) (cells slots : Nat) (ls : Array Slot), HW D cls8 FTc AC A s.heap H locs w → lv_has ls 4 [(0, va_rf (some x0)), (1, .int x1)] → cells ≤ mc → slots ≤ ms → W p l e { frames := 2, cells := mc, slots := ms, locals := 63 } s m args below meth c H locs cells slots (vx_MQ below (QQ D AC A (fun v w9 => ∃ r9 : Option Nat, v = some (va_rf r9) ∧ Q r9 w9)) (XX D AC A (fun _ _ => False)) args s mc ms A) (F0 m 0 ls []) := by
  obtain ⟨hl0, hx, hb, hr, ht, hown, hlocks, hnm, hml, hex, hK, hA, hZ, hV⟩ := id C
  intro H locs cells slots ls hW hl hc hs
  unfold wp_Al_remove at hq
  refine lv_iload_n hx hb d_Al_remove_0 rfl (lv_at hl 1 rfl) ?_
  refine bw_aload_n hx hb d_Al_remove_1 rfl (lv_at hl 0 rfl) ?_
  obtain ⟨t1, hq⟩ := hq
  refine bw_getI hx hb ht in_Al hown hK hW rfl t1 (by decide) rfl 2 (by decide) rfl (ht _ m_48) (fun _ h => h) d_Al_remove_2 ?_
  refine bw_callS (As := [.int x1, .int (wI w x0 2)]) (rest := []) C hW ci_Ob_checkIndex m_103 m_104 d_Al_remove_5 rfl rfl hl.1 (by decide) ⟨Nat.le_of_ble_eq_true rfl, Nat.le_of_ble_eq_true rfl⟩ ⟨hc, hs⟩ (c_Ob_checkIndex hl0 _ _ _ hq) (fun _ _ _ _ _ _ h => h.elim) (fun v2 w3 H locs hv hW => ?_)
  obtain ⟨i8, rfl, hq⟩ := hv
  refine W.eq (g2 := F0 m 8 ls [.int i8]) rfl ?_
  refine lv_pop hx hb d_Al_remove_8 rfl ?_
  refine bw_aload_n hx hb d_Al_remove_9 rfl (lv_at hl 0 rfl) ?_
  obtain ⟨t9, hq⟩ := hq
  refine bw_getR hx hb ht in_Al hown hK hW rfl t9 (by decide) rfl 1 (by decide) rfl (ht _ m_47) (fun _ h => h) d_Al_remove_10 ?_
  refine bw_topr (fun r10 er10 => ?_)
  have hq := hq r10 er10
  refine bw_astore_n (i := 2) (lv' := [(2, va_rf r10), (0, va_rf (some x0)), (1, .int x1)]) hx hb d_Al_remove_13 rfl hl (by decide) (by simp [bw_cat, cat_i, cat_j]) (fun ls hl => ?_)
  refine bw_aload_n hx hb d_Al_remove_14 rfl (lv_at hl 0 rfl) ?_
  refine lv_iload_n hx hb d_Al_remove_15 rfl (lv_at hl 2 rfl) ?_
  obtain ⟨a11, ea11, hq⟩ := hq
  obtain ⟨t12, hq⟩ := hq
  obtain ⟨h13, hq⟩ := hq
  refine bw_aald C hW ea11 t12 h13 d_Al_remove_16 ?_
  refine bw_topr (fun r14 er14 => ?_)
  have hq := hq r14 er14
  refine bw_astore_n (i := 3) (lv' := [(3, va_rf r14), (2, va_rf r10), (0, va_rf (some x0)), (1, .int x1)]) hx hb d_Al_remove_17 rfl hl (by decide) (by simp [bw_cat, cat_i, cat_j]) (fun ls hl => ?_)
  refine bw_aload_n hx hb d_Al_remove_18 rfl (lv_at hl 2 rfl) ?_
  refine bw_aload_n hx hb d_Al_remove_19 rfl (lv_at hl 1 rfl) ?_
  refine lv_iload_n hx hb d_Al_remove_20 rfl (lv_at hl 3 rfl) ?_
  refine bw_callV (As := [va_rf r10, .int x1]) (rest := []) C hW ci_Al_fastRemove m_563 m_565 sel_Al_fastRemove d_Al_remove_21 rfl t9 (by decide) rfl rfl rfl hl.1 (by decide) ⟨Nat.le_of_ble_eq_true rfl, Nat.le_of_ble_eq_true rfl⟩ ⟨hc, hs⟩ (c_Al_fastRemove hl0 _ _ _ _ hq) (fun _ _ _ _ _ _ h => h.elim) (fun v15 w16 H locs hv hW => ?_)
  obtain ⟨rfl, hq⟩ := hv
  refine W.eq (g2 := F0 m 24 ls []) rfl ?_
  refine bw_aload_n hx hb d_Al_remove_24 rfl (lv_at hl 0 rfl) ?_
  exact bw_aret C (Or.inl ⟨_, rfl⟩) hW ⟨_, rfl, hq⟩ d_Al_remove_25 hc hs
theorem ci_Al_remove : CI n_Al_remove b_Al_remove 4 (some (.object "java/lang/Object")) 1 := ⟨m_562, m_4, by decide, by decide, by decide +kernel⟩
theorem c_Al_remove {l : Launch} {D : va_G} {AC : Nat → ClassId} {e0 mi : Nat} {Q : Option Nat → Wd → Prop} (hl0 : l.stackTraces = false) (x0 : Nat) (x1 : Int32) (w : Wd) (hq : wp_Al_remove e0 mi x0 x1 w Q) : Ct l D AC e0 mi n_Al_remove (wy n_Al_remove b_Al_remove 4 (some (.object "java/lang/Object"))) 2 63 [va_rf (some x0), .int x1] w 0 0 (fun v w9 => ∃ r9 : Option Nat, v = some (va_rf r9) ∧ Q r9 w9) (fun _ _ => False) :=
  Ct.of hl0 (by decide) (by simp [lg_sl, bw_cat, cat_i, cat_j]) (fun p e s m args below meth c A ls C hW hl => k_Al_remove_0 C x0 x1 w hq s.heap [] 0 0 ls hW (by simpa [lv_args, bw_cat, cat_i, cat_j] using hl) (Nat.le_refl _) (Nat.le_refl _))
end
section
abbrev b_Br_init : ByteArray := prog_1_method_1_code
abbrev n_Br_init : MethodName := ⟨"BeltRows", "<init>", "()V"⟩
theorem d_Br_init_0 : decode b_Br_init 0 = .ok (.aload_n 0, 1) := by decide +kernel
theorem d_Br_init_1 : decode b_Br_init 1 = .ok (.invokespecial 1, 3) := by decide +kernel
theorem d_Br_init_4 : decode b_Br_init 4 = .ok (.aload_n 0, 1) := by decide +kernel
theorem d_Br_init_5 : decode b_Br_init 5 = .ok (.new 7, 3) := by decide +kernel
theorem d_Br_init_8 : decode b_Br_init 8 = .ok (.dup, 1) := by decide +kernel
theorem d_Br_init_9 : decode b_Br_init 9 = .ok (.invokespecial 9, 3) := by decide +kernel
theorem d_Br_init_12 : decode b_Br_init 12 = .ok (.putfield 10, 3) := by decide +kernel
theorem d_Br_init_15 : decode b_Br_init 15 = .ok (.aload_n 0, 1) := by decide +kernel
theorem d_Br_init_16 : decode b_Br_init 16 = .ok (.new 7, 3) := by decide +kernel
theorem d_Br_init_19 : decode b_Br_init 19 = .ok (.dup, 1) := by decide +kernel
theorem d_Br_init_20 : decode b_Br_init 20 = .ok (.invokespecial 9, 3) := by decide +kernel
theorem d_Br_init_23 : decode b_Br_init 23 = .ok (.putfield 16, 3) := by decide +kernel
theorem d_Br_init_26 : decode b_Br_init 26 = .ok (.aload_n 0, 1) := by decide +kernel
theorem d_Br_init_27 : decode b_Br_init 27 = .ok (.new 7, 3) := by decide +kernel
theorem d_Br_init_30 : decode b_Br_init 30 = .ok (.dup, 1) := by decide +kernel
theorem d_Br_init_31 : decode b_Br_init 31 = .ok (.invokespecial 9, 3) := by decide +kernel
theorem d_Br_init_34 : decode b_Br_init 34 = .ok (.putfield 19, 3) := by decide +kernel
theorem d_Br_init_37 : decode b_Br_init 37 = .ok (.aload_n 0, 1) := by decide +kernel
theorem d_Br_init_38 : decode b_Br_init 38 = .ok (.new 7, 3) := by decide +kernel
theorem d_Br_init_41 : decode b_Br_init 41 = .ok (.dup, 1) := by decide +kernel
theorem d_Br_init_42 : decode b_Br_init 42 = .ok (.invokespecial 9, 3) := by decide +kernel
theorem d_Br_init_45 : decode b_Br_init 45 = .ok (.putfield 22, 3) := by decide +kernel
theorem d_Br_init_48 : decode b_Br_init 48 = .ok (.aload_n 0, 1) := by decide +kernel
theorem d_Br_init_49 : decode b_Br_init 49 = .ok (.new 7, 3) := by decide +kernel
theorem d_Br_init_52 : decode b_Br_init 52 = .ok (.dup, 1) := by decide +kernel
theorem d_Br_init_53 : decode b_Br_init 53 = .ok (.invokespecial 9, 3) := by decide +kernel
theorem d_Br_init_56 : decode b_Br_init 56 = .ok (.putfield 25, 3) := by decide +kernel
theorem d_Br_init_59 : decode b_Br_init 59 = .ok (.aload_n 0, 1) := by decide +kernel
theorem d_Br_init_60 : decode b_Br_init 60 = .ok (.new 7, 3) := by decide +kernel
theorem d_Br_init_63 : decode b_Br_init 63 = .ok (.dup, 1) := by decide +kernel
theorem d_Br_init_64 : decode b_Br_init 64 = .ok (.invokespecial 9, 3) := by decide +kernel
theorem d_Br_init_67 : decode b_Br_init 67 = .ok (.putfield 28, 3) := by decide +kernel
theorem d_Br_init_70 : decode b_Br_init 70 = .ok (.aload_n 0, 1) := by decide +kernel
theorem d_Br_init_71 : decode b_Br_init 71 = .ok (.bipush 100, 2) := by decide +kernel
theorem d_Br_init_73 : decode b_Br_init 73 = .ok (.putfield 31, 3) := by decide +kernel
theorem d_Br_init_76 : decode b_Br_init 76 = .ok (.aload_n 0, 1) := by decide +kernel
theorem d_Br_init_77 : decode b_Br_init 77 = .ok (.iconst 0, 1) := by decide +kernel
theorem d_Br_init_78 : decode b_Br_init 78 = .ok (.putfield 35, 3) := by decide +kernel
theorem d_Br_init_81 : decode b_Br_init 81 = .ok (.aload_n 0, 1) := by decide +kernel
theorem d_Br_init_82 : decode b_Br_init 82 = .ok (.iconst 0, 1) := by decide +kernel
theorem d_Br_init_83 : decode b_Br_init 83 = .ok (.putfield 38, 3) := by decide +kernel
theorem d_Br_init_86 : decode b_Br_init 86 = .ok (.return_, 1) := by decide +kernel
abbrev b_Br_count : ByteArray := prog_1_method_19_code
abbrev n_Br_count : MethodName := ⟨"BeltRows", "count", "(I)I"⟩
theorem d_Br_count_0 : decode b_Br_count 0 = .ok (.iload_n 1, 1) := by decide +kernel
theorem d_Br_count_1 : decode b_Br_count 1 = .ok (.tableswitch 105 0 7 #[47, 55, 63, 68, 76, 84, 89, 97], 47) := by decide +kernel
theorem d_Br_count_48 : decode b_Br_count 48 = .ok (.aload_n 0, 1) := by decide +kernel
theorem d_Br_count_49 : decode b_Br_count 49 = .ok (.getfield 10, 3) := by decide +kernel
theorem d_Br_count_52 : decode b_Br_count 52 = .ok (.invokevirtual 45, 3) := by decide +kernel
theorem d_Br_count_55 : decode b_Br_count 55 = .ok (.ireturn, 1) := by decide +kernel
theorem d_Br_count_56 : decode b_Br_count 56 = .ok (.aload_n 0, 1) := by decide +kernel
theorem d_Br_count_57 : decode b_Br_count 57 = .ok (.getfield 16, 3) := by decide +kernel
theorem d_Br_count_60 : decode b_Br_count 60 = .ok (.invokevirtual 45, 3) := by decide +kernel
theorem d_Br_count_63 : decode b_Br_count 63 = .ok (.ireturn, 1) := by decide +kernel
theorem d_Br_count_64 : decode b_Br_count 64 = .ok (.aload_n 0, 1) := by decide +kernel
theorem d_Br_count_65 : decode b_Br_count 65 = .ok (.invokevirtual 222, 3) := by decide +kernel
theorem d_Br_count_68 : decode b_Br_count 68 = .ok (.ireturn, 1) := by decide +kernel
theorem d_Br_count_69 : decode b_Br_count 69 = .ok (.aload_n 0, 1) := by decide +kernel
theorem d_Br_count_70 : decode b_Br_count 70 = .ok (.getfield 28, 3) := by decide +kernel
theorem d_Br_count_73 : decode b_Br_count 73 = .ok (.invokevirtual 45, 3) := by decide +kernel
theorem d_Br_count_76 : decode b_Br_count 76 = .ok (.ireturn, 1) := by decide +kernel
theorem d_Br_count_77 : decode b_Br_count 77 = .ok (.aload_n 0, 1) := by decide +kernel
theorem d_Br_count_78 : decode b_Br_count 78 = .ok (.getfield 22, 3) := by decide +kernel
theorem d_Br_count_81 : decode b_Br_count 81 = .ok (.invokevirtual 45, 3) := by decide +kernel
theorem d_Br_count_84 : decode b_Br_count 84 = .ok (.ireturn, 1) := by decide +kernel
theorem d_Br_count_85 : decode b_Br_count 85 = .ok (.aload_n 0, 1) := by decide +kernel
theorem d_Br_count_86 : decode b_Br_count 86 = .ok (.getfield 35, 3) := by decide +kernel
theorem d_Br_count_89 : decode b_Br_count 89 = .ok (.ireturn, 1) := by decide +kernel
theorem d_Br_count_90 : decode b_Br_count 90 = .ok (.aload_n 0, 1) := by decide +kernel
theorem d_Br_count_91 : decode b_Br_count 91 = .ok (.getfield 19, 3) := by decide +kernel
theorem d_Br_count_94 : decode b_Br_count 94 = .ok (.invokevirtual 45, 3) := by decide +kernel
theorem d_Br_count_97 : decode b_Br_count 97 = .ok (.ireturn, 1) := by decide +kernel
theorem d_Br_count_98 : decode b_Br_count 98 = .ok (.aload_n 0, 1) := by decide +kernel
theorem d_Br_count_99 : decode b_Br_count 99 = .ok (.getfield 25, 3) := by decide +kernel
theorem d_Br_count_102 : decode b_Br_count 102 = .ok (.invokevirtual 45, 3) := by decide +kernel
theorem d_Br_count_105 : decode b_Br_count 105 = .ok (.ireturn, 1) := by decide +kernel
theorem d_Br_count_106 : decode b_Br_count 106 = .ok (.iconst (-1), 1) := by decide +kernel
theorem d_Br_count_107 : decode b_Br_count 107 = .ok (.ireturn, 1) := by decide +kernel
abbrev b_Br_itemsOnBelts : ByteArray := prog_1_method_25_code
abbrev n_Br_itemsOnBelts : MethodName := ⟨"BeltRows", "itemsOnBelts", "()I"⟩
theorem d_Br_itemsOnBelts_0 : decode b_Br_itemsOnBelts 0 = .ok (.iconst 0, 1) := by decide +kernel
theorem d_Br_itemsOnBelts_1 : decode b_Br_itemsOnBelts 1 = .ok (.istore_n 1, 1) := by decide +kernel
theorem d_Br_itemsOnBelts_2 : decode b_Br_itemsOnBelts 2 = .ok (.iconst 0, 1) := by decide +kernel
theorem d_Br_itemsOnBelts_3 : decode b_Br_itemsOnBelts 3 = .ok (.istore_n 2, 1) := by decide +kernel
theorem d_Br_itemsOnBelts_4 : decode b_Br_itemsOnBelts 4 = .ok (.iload_n 2, 1) := by decide +kernel
theorem d_Br_itemsOnBelts_5 : decode b_Br_itemsOnBelts 5 = .ok (.aload_n 0, 1) := by decide +kernel
theorem d_Br_itemsOnBelts_6 : decode b_Br_itemsOnBelts 6 = .ok (.getfield 10, 3) := by decide +kernel
theorem d_Br_itemsOnBelts_9 : decode b_Br_itemsOnBelts 9 = .ok (.invokevirtual 45, 3) := by decide +kernel
theorem d_Br_itemsOnBelts_12 : decode b_Br_itemsOnBelts 12 = .ok (.if_icmp .ge 26, 3) := by decide +kernel
theorem d_Br_itemsOnBelts_15 : decode b_Br_itemsOnBelts 15 = .ok (.iload_n 1, 1) := by decide +kernel
theorem d_Br_itemsOnBelts_16 : decode b_Br_itemsOnBelts 16 = .ok (.aload_n 0, 1) := by decide +kernel
theorem d_Br_itemsOnBelts_17 : decode b_Br_itemsOnBelts 17 = .ok (.getfield 10, 3) := by decide +kernel
theorem d_Br_itemsOnBelts_20 : decode b_Br_itemsOnBelts 20 = .ok (.iload_n 2, 1) := by decide +kernel
theorem d_Br_itemsOnBelts_21 : decode b_Br_itemsOnBelts 21 = .ok (.invokevirtual 140, 3) := by decide +kernel
theorem d_Br_itemsOnBelts_24 : decode b_Br_itemsOnBelts 24 = .ok (.checkcast 56, 3) := by decide +kernel
theorem d_Br_itemsOnBelts_27 : decode b_Br_itemsOnBelts 27 = .ok (.getfield 183, 3) := by decide +kernel
theorem d_Br_itemsOnBelts_30 : decode b_Br_itemsOnBelts 30 = .ok (.iadd, 1) := by decide +kernel
theorem d_Br_itemsOnBelts_31 : decode b_Br_itemsOnBelts 31 = .ok (.istore_n 1, 1) := by decide +kernel
theorem d_Br_itemsOnBelts_32 : decode b_Br_itemsOnBelts 32 = .ok (.iinc 2 1, 3) := by decide +kernel
theorem d_Br_itemsOnBelts_35 : decode b_Br_itemsOnBelts 35 = .ok (.goto (-31), 3) := by decide +kernel
theorem d_Br_itemsOnBelts_38 : decode b_Br_itemsOnBelts 38 = .ok (.iload_n 1, 1) := by decide +kernel
theorem d_Br_itemsOnBelts_39 : decode b_Br_itemsOnBelts 39 = .ok (.ireturn, 1) := by decide +kernel
abbrev b_Br_belt : ByteArray := prog_1_method_2_code
abbrev n_Br_belt : MethodName := ⟨"BeltRows", "belt", "(II)I"⟩
theorem d_Br_belt_0 : decode b_Br_belt 0 = .ok (.iload_n 1, 1) := by decide +kernel
theorem d_Br_belt_1 : decode b_Br_belt 1 = .ok (.iconst 1, 1) := by decide +kernel
theorem d_Br_belt_2 : decode b_Br_belt 2 = .ok (.sipush 10000, 3) := by decide +kernel
theorem d_Br_belt_5 : decode b_Br_belt 5 = .ok (.invokestatic 41, 3) := by decide +kernel
theorem d_Br_belt_8 : decode b_Br_belt 8 = .ok (.iload_n 2, 1) := by decide +kernel
theorem d_Br_belt_9 : decode b_Br_belt 9 = .ok (.iconst 0, 1) := by decide +kernel
theorem d_Br_belt_10 : decode b_Br_belt 10 = .ok (.sipush 1000, 3) := by decide +kernel
theorem d_Br_belt_13 : decode b_Br_belt 13 = .ok (.invokestatic 41, 3) := by decide +kernel
theorem d_Br_belt_16 : decode b_Br_belt 16 = .ok (.aload_n 0, 1) := by decide +kernel
theorem d_Br_belt_17 : decode b_Br_belt 17 = .ok (.getfield 10, 3) := by decide +kernel
theorem d_Br_belt_20 : decode b_Br_belt 20 = .ok (.invokevirtual 45, 3) := by decide +kernel
theorem d_Br_belt_23 : decode b_Br_belt 23 = .ok (.istore_n 3, 1) := by decide +kernel
theorem d_Br_belt_24 : decode b_Br_belt 24 = .ok (.iload_n 3, 1) := by decide +kernel
theorem d_Br_belt_25 : decode b_Br_belt 25 = .ok (.bipush 8, 2) := by decide +kernel
theorem d_Br_belt_27 : decode b_Br_belt 27 = .ok (.if_icmp .lt 13, 3) := by decide +kernel
theorem d_Br_belt_30 : decode b_Br_belt 30 = .ok (.new 49, 3) := by decide +kernel
theorem d_Br_belt_33 : decode b_Br_belt 33 = .ok (.dup, 1) := by decide +kernel
theorem d_Br_belt_34 : decode b_Br_belt 34 = .ok (.ldc 51, 2) := by decide +kernel
theorem d_Br_belt_36 : decode b_Br_belt 36 = .ok (.invokespecial 53, 3) := by decide +kernel
theorem d_Br_belt_39 : decode b_Br_belt 39 = .ok (.athrow, 1) := by decide +kernel
theorem d_Br_belt_40 : decode b_Br_belt 40 = .ok (.aload_n 0, 1) := by decide +kernel
theorem d_Br_belt_41 : decode b_Br_belt 41 = .ok (.getfield 10, 3) := by decide +kernel
theorem d_Br_belt_44 : decode b_Br_belt 44 = .ok (.new 56, 3) := by decide +kernel
theorem d_Br_belt_47 : decode b_Br_belt 47 = .ok (.dup, 1) := by decide +kernel
theorem d_Br_belt_48 : decode b_Br_belt 48 = .ok (.iload_n 3, 1) := by decide +kernel
theorem d_Br_belt_49 : decode b_Br_belt 49 = .ok (.iload_n 1, 1) := by decide +kernel
theorem d_Br_belt_50 : decode b_Br_belt 50 = .ok (.iload_n 2, 1) := by decide +kernel
theorem d_Br_belt_51 : decode b_Br_belt 51 = .ok (.invokespecial 58, 3) := by decide +kernel
theorem d_Br_belt_54 : decode b_Br_belt 54 = .ok (.invokevirtual 60, 3) := by decide +kernel
theorem d_Br_belt_57 : decode b_Br_belt 57 = .ok (.pop, 1) := by decide +kernel
theorem d_Br_belt_58 : decode b_Br_belt 58 = .ok (.iload_n 3, 1) := by decide +kernel
theorem d_Br_belt_59 : decode b_Br_belt 59 = .ok (.ireturn, 1) := by decide +kernel
abbrev b_Br_checkRange : ByteArray := prog_1_method_20_code
abbrev n_Br_checkRange : MethodName := ⟨"BeltRows", "checkRange", "(III)V"⟩
theorem d_Br_checkRange_0 : decode b_Br_checkRange 0 = .ok (.iload_n 0, 1) := by decide +kernel
theorem d_Br_checkRange_1 : decode b_Br_checkRange 1 = .ok (.iload_n 1, 1) := by decide +kernel
theorem d_Br_checkRange_2 : decode b_Br_checkRange 2 = .ok (.if_icmp .lt 8, 3) := by decide +kernel
theorem d_Br_checkRange_5 : decode b_Br_checkRange 5 = .ok (.iload_n 0, 1) := by decide +kernel
theorem d_Br_checkRange_6 : decode b_Br_checkRange 6 = .ok (.iload_n 2, 1) := by decide +kernel
theorem d_Br_checkRange_7 : decode b_Br_checkRange 7 = .ok (.if_icmp .le 13, 3) := by decide +kernel
theorem d_Br_checkRange_10 : decode b_Br_checkRange 10 = .ok (.new 68, 3) := by decide +kernel
theorem d_Br_checkRange_13 : decode b_Br_checkRange 13 = .ok (.dup, 1) := by decide +kernel
theorem d_Br_checkRange_14 : decode b_Br_checkRange 14 = .ok (.ldc 225, 2) := by decide +kernel
theorem d_Br_checkRange_16 : decode b_Br_checkRange 16 = .ok (.invokespecial 72, 3) := by decide +kernel
theorem d_Br_checkRange_19 : decode b_Br_checkRange 19 = .ok (.athrow, 1) := by decide +kernel
theorem d_Br_checkRange_20 : decode b_Br_checkRange 20 = .ok (.return_, 1) := by decide +kernel
abbrev b_Br_join : ByteArray := prog_1_method_3_code
abbrev n_Br_join : MethodName := ⟨"BeltRows", "join", "(IIII)I"⟩
theorem d_Br_join_0 : decode b_Br_join 0 = .ok (.aload_n 0, 1) := by decide +kernel
theorem d_Br_join_1 : decode b_Br_join 1 = .ok (.iload_n 1, 1) := by decide +kernel
theorem d_Br_join_2 : decode b_Br_join 2 = .ok (.invokevirtual 64, 3) := by decide +kernel
theorem d_Br_join_5 : decode b_Br_join 5 = .ok (.astore 5, 2) := by decide +kernel
theorem d_Br_join_7 : decode b_Br_join 7 = .ok (.aload_n 0, 1) := by decide +kernel
theorem d_Br_join_8 : decode b_Br_join 8 = .ok (.iload_n 3, 1) := by decide +kernel
theorem d_Br_join_9 : decode b_Br_join 9 = .ok (.invokevirtual 64, 3) := by decide +kernel
theorem d_Br_join_12 : decode b_Br_join 12 = .ok (.astore 6, 2) := by decide +kernel
theorem d_Br_join_14 : decode b_Br_join 14 = .ok (.iload_n 2, 1) := by decide +kernel
theorem d_Br_join_15 : decode b_Br_join 15 = .ok (.iconst 0, 1) := by decide +kernel
theorem d_Br_join_16 : decode b_Br_join 16 = .ok (.iconst 1, 1) := by decide +kernel
theorem d_Br_join_17 : decode b_Br_join 17 = .ok (.invokestatic 41, 3) := by decide +kernel
theorem d_Br_join_20 : decode b_Br_join 20 = .ok (.iload 4, 2) := by decide +kernel
theorem d_Br_join_22 : decode b_Br_join 22 = .ok (.iconst 1, 1) := by decide +kernel
theorem d_Br_join_23 : decode b_Br_join 23 = .ok (.bipush 9, 2) := by decide +kernel
theorem d_Br_join_25 : decode b_Br_join 25 = .ok (.invokestatic 41, 3) := by decide +kernel
theorem d_Br_join_28 : decode b_Br_join 28 = .ok (.iload_n 3, 1) := by decide +kernel
theorem d_Br_join_29 : decode b_Br_join 29 = .ok (.iload_n 1, 1) := by decide +kernel
theorem d_Br_join_30 : decode b_Br_join 30 = .ok (.if_icmp .gt 13, 3) := by decide +kernel
theorem d_Br_join_33 : decode b_Br_join 33 = .ok (.new 68, 3) := by decide +kernel
theorem d_Br_join_36 : decode b_Br_join 36 = .ok (.dup, 1) := by decide +kernel
theorem d_Br_join_37 : decode b_Br_join 37 = .ok (.ldc 70, 2) := by decide +kernel
theorem d_Br_join_39 : decode b_Br_join 39 = .ok (.invokespecial 72, 3) := by decide +kernel
theorem d_Br_join_42 : decode b_Br_join 42 = .ok (.athrow, 1) := by decide +kernel
theorem d_Br_join_43 : decode b_Br_join 43 = .ok (.aload 5, 2) := by decide +kernel
theorem d_Br_join_45 : decode b_Br_join 45 = .ok (.iload_n 2, 1) := by decide +kernel
theorem d_Br_join_46 : decode b_Br_join 46 = .ok (.invokevirtual 73, 3) := by decide +kernel
theorem d_Br_join_49 : decode b_Br_join 49 = .ok (.aload 6, 2) := by decide +kernel
theorem d_Br_join_51 : decode b_Br_join 51 = .ok (.iload 4, 2) := by decide +kernel
theorem d_Br_join_53 : decode b_Br_join 53 = .ok (.invokevirtual 77, 3) := by decide +kernel
theorem d_Br_join_56 : decode b_Br_join 56 = .ok (.aload_n 0, 1) := by decide +kernel
theorem d_Br_join_57 : decode b_Br_join 57 = .ok (.aload 6, 2) := by decide +kernel
theorem d_Br_join_59 : decode b_Br_join 59 = .ok (.invokevirtual 83, 3) := by decide +kernel
theorem d_Br_join_62 : decode b_Br_join 62 = .ok (.ireturn, 1) := by decide +kernel
abbrev b_Br_findBelt : ByteArray := prog_1_method_22_code
abbrev n_Br_findBelt : MethodName := ⟨"BeltRows", "findBelt", "(I)LBeltRows$Belt;"⟩
theorem d_Br_findBelt_0 : decode b_Br_findBelt 0 = .ok (.iload_n 1, 1) := by decide +kernel
theorem d_Br_findBelt_1 : decode b_Br_findBelt 1 = .ok (.ifCond .lt 14, 3) := by decide +kernel
theorem d_Br_findBelt_4 : decode b_Br_findBelt 4 = .ok (.iload_n 1, 1) := by decide +kernel
theorem d_Br_findBelt_5 : decode b_Br_findBelt 5 = .ok (.aload_n 0, 1) := by decide +kernel
theorem d_Br_findBelt_6 : decode b_Br_findBelt 6 = .ok (.getfield 10, 3) := by decide +kernel
theorem d_Br_findBelt_9 : decode b_Br_findBelt 9 = .ok (.invokevirtual 45, 3) := by decide +kernel
theorem d_Br_findBelt_12 : decode b_Br_findBelt 12 = .ok (.if_icmp .lt 13, 3) := by decide +kernel
theorem d_Br_findBelt_15 : decode b_Br_findBelt 15 = .ok (.new 135, 3) := by decide +kernel
theorem d_Br_findBelt_18 : decode b_Br_findBelt 18 = .ok (.dup, 1) := by decide +kernel
theorem d_Br_findBelt_19 : decode b_Br_findBelt 19 = .ok (.ldc 229, 2) := by decide +kernel
theorem d_Br_findBelt_21 : decode b_Br_findBelt 21 = .ok (.invokespecial 139, 3) := by decide +kernel
theorem d_Br_findBelt_24 : decode b_Br_findBelt 24 = .ok (.athrow, 1) := by decide +kernel
theorem d_Br_findBelt_25 : decode b_Br_findBelt 25 = .ok (.aload_n 0, 1) := by decide +kernel
theorem d_Br_findBelt_26 : decode b_Br_findBelt 26 = .ok (.getfield 10, 3) := by decide +kernel
theorem d_Br_findBelt_29 : decode b_Br_findBelt 29 = .ok (.iload_n 1, 1) := by decide +kernel
theorem d_Br_findBelt_30 : decode b_Br_findBelt 30 = .ok (.invokevirtual 140, 3) := by decide +kernel
theorem d_Br_findBelt_33 : decode b_Br_findBelt 33 = .ok (.checkcast 56, 3) := by decide +kernel
theorem d_Br_findBelt_36 : decode b_Br_findBelt 36 = .ok (.areturn, 1) := by decide +kernel
abbrev b_Br_waysTo : ByteArray := prog_1_method_24_code
abbrev n_Br_waysTo : MethodName := ⟨"BeltRows", "waysTo", "(LBeltRows$Belt;)I"⟩
theorem d_Br_waysTo_0 : decode b_Br_waysTo 0 = .ok (.iconst 0, 1) := by decide +kernel
theorem d_Br_waysTo_1 : decode b_Br_waysTo 1 = .ok (.istore_n 2, 1) := by decide +kernel
theorem d_Br_waysTo_2 : decode b_Br_waysTo 2 = .ok (.iconst 0, 1) := by decide +kernel
theorem d_Br_waysTo_3 : decode b_Br_waysTo 3 = .ok (.istore_n 3, 1) := by decide +kernel
theorem d_Br_waysTo_4 : decode b_Br_waysTo 4 = .ok (.iload_n 3, 1) := by decide +kernel
theorem d_Br_waysTo_5 : decode b_Br_waysTo 5 = .ok (.aload_n 0, 1) := by decide +kernel
theorem d_Br_waysTo_6 : decode b_Br_waysTo 6 = .ok (.getfield 10, 3) := by decide +kernel
theorem d_Br_waysTo_9 : decode b_Br_waysTo 9 = .ok (.invokevirtual 45, 3) := by decide +kernel
theorem d_Br_waysTo_12 : decode b_Br_waysTo 12 = .ok (.if_icmp .ge 64, 3) := by decide +kernel
theorem d_Br_waysTo_15 : decode b_Br_waysTo 15 = .ok (.aload_n 0, 1) := by decide +kernel
theorem d_Br_waysTo_16 : decode b_Br_waysTo 16 = .ok (.getfield 10, 3) := by decide +kernel
theorem d_Br_waysTo_19 : decode b_Br_waysTo 19 = .ok (.iload_n 3, 1) := by decide +kernel
theorem d_Br_waysTo_20 : decode b_Br_waysTo 20 = .ok (.invokevirtual 140, 3) := by decide +kernel
theorem d_Br_waysTo_23 : decode b_Br_waysTo 23 = .ok (.checkcast 56, 3) := by decide +kernel
theorem d_Br_waysTo_26 : decode b_Br_waysTo 26 = .ok (.astore 4, 2) := by decide +kernel
theorem d_Br_waysTo_28 : decode b_Br_waysTo 28 = .ok (.iload_n 2, 1) := by decide +kernel
theorem d_Br_waysTo_29 : decode b_Br_waysTo 29 = .ok (.aload 4, 2) := by decide +kernel
theorem d_Br_waysTo_31 : decode b_Br_waysTo 31 = .ok (.iconst 0, 1) := by decide +kernel
theorem d_Br_waysTo_32 : decode b_Br_waysTo 32 = .ok (.invokevirtual 73, 3) := by decide +kernel
theorem d_Br_waysTo_35 : decode b_Br_waysTo 35 = .ok (.getfield 233, 3) := by decide +kernel
theorem d_Br_waysTo_38 : decode b_Br_waysTo 38 = .ok (.aload_n 1, 1) := by decide +kernel
theorem d_Br_waysTo_39 : decode b_Br_waysTo 39 = .ok (.if_acmp .ne 7, 3) := by decide +kernel
theorem d_Br_waysTo_42 : decode b_Br_waysTo 42 = .ok (.iconst 1, 1) := by decide +kernel
theorem d_Br_waysTo_43 : decode b_Br_waysTo 43 = .ok (.goto 4, 3) := by decide +kernel
theorem d_Br_waysTo_46 : decode b_Br_waysTo 46 = .ok (.iconst 0, 1) := by decide +kernel
theorem d_Br_waysTo_47 : decode b_Br_waysTo 47 = .ok (.iadd, 1) := by decide +kernel
theorem d_Br_waysTo_48 : decode b_Br_waysTo 48 = .ok (.istore_n 2, 1) := by decide +kernel
theorem d_Br_waysTo_49 : decode b_Br_waysTo 49 = .ok (.iload_n 2, 1) := by decide +kernel
theorem d_Br_waysTo_50 : decode b_Br_waysTo 50 = .ok (.aload 4, 2) := by decide +kernel
theorem d_Br_waysTo_52 : decode b_Br_waysTo 52 = .ok (.iconst 1, 1) := by decide +kernel
theorem d_Br_waysTo_53 : decode b_Br_waysTo 53 = .ok (.invokevirtual 73, 3) := by decide +kernel
theorem d_Br_waysTo_56 : decode b_Br_waysTo 56 = .ok (.getfield 233, 3) := by decide +kernel
theorem d_Br_waysTo_59 : decode b_Br_waysTo 59 = .ok (.aload_n 1, 1) := by decide +kernel
theorem d_Br_waysTo_60 : decode b_Br_waysTo 60 = .ok (.if_acmp .ne 7, 3) := by decide +kernel
theorem d_Br_waysTo_63 : decode b_Br_waysTo 63 = .ok (.iconst 1, 1) := by decide +kernel
theorem d_Br_waysTo_64 : decode b_Br_waysTo 64 = .ok (.goto 4, 3) := by decide +kernel
theorem d_Br_waysTo_67 : decode b_Br_waysTo 67 = .ok (.iconst 0, 1) := by decide +kernel
theorem d_Br_waysTo_68 : decode b_Br_waysTo 68 = .ok (.iadd, 1) := by decide +kernel
theorem d_Br_waysTo_69 : decode b_Br_waysTo 69 = .ok (.istore_n 2, 1) := by decide +kernel
theorem d_Br_waysTo_70 : decode b_Br_waysTo 70 = .ok (.iinc 3 1, 3) := by decide +kernel
theorem d_Br_waysTo_73 : decode b_Br_waysTo 73 = .ok (.goto (-69), 3) := by decide +kernel
theorem d_Br_waysTo_76 : decode b_Br_waysTo 76 = .ok (.iload_n 2, 1) := by decide +kernel
theorem d_Br_waysTo_77 : decode b_Br_waysTo 77 = .ok (.ireturn, 1) := by decide +kernel
abbrev b_Br_run : ByteArray := prog_1_method_4_code
abbrev n_Br_run : MethodName := ⟨"BeltRows", "run", "(IIZ)V"⟩
theorem d_Br_run_0 : decode b_Br_run 0 = .ok (.aload_n 0, 1) := by decide +kernel
theorem d_Br_run_1 : decode b_Br_run 1 = .ok (.iload_n 1, 1) := by decide +kernel
theorem d_Br_run_2 : decode b_Br_run 2 = .ok (.invokevirtual 64, 3) := by decide +kernel
theorem d_Br_run_5 : decode b_Br_run 5 = .ok (.astore 4, 2) := by decide +kernel
theorem d_Br_run_7 : decode b_Br_run 7 = .ok (.iload_n 2, 1) := by decide +kernel
theorem d_Br_run_8 : decode b_Br_run 8 = .ok (.iconst 0, 1) := by decide +kernel
theorem d_Br_run_9 : decode b_Br_run 9 = .ok (.sipush 1000, 3) := by decide +kernel
theorem d_Br_run_12 : decode b_Br_run 12 = .ok (.invokestatic 41, 3) := by decide +kernel
theorem d_Br_run_15 : decode b_Br_run 15 = .ok (.aload 4, 2) := by decide +kernel
theorem d_Br_run_17 : decode b_Br_run 17 = .ok (.iload_n 2, 1) := by decide +kernel
theorem d_Br_run_18 : decode b_Br_run 18 = .ok (.putfield 87, 3) := by decide +kernel
theorem d_Br_run_21 : decode b_Br_run 21 = .ok (.aload 4, 2) := by decide +kernel
theorem d_Br_run_23 : decode b_Br_run 23 = .ok (.iload_n 3, 1) := by decide +kernel
theorem d_Br_run_24 : decode b_Br_run 24 = .ok (.putfield 90, 3) := by decide +kernel
theorem d_Br_run_27 : decode b_Br_run 27 = .ok (.return_, 1) := by decide +kernel
abbrev b_Br_gaps : ByteArray := prog_1_method_5_code
abbrev n_Br_gaps : MethodName := ⟨"BeltRows", "gaps", "(I)V"⟩
theorem d_Br_gaps_0 : decode b_Br_gaps 0 = .ok (.iload_n 1, 1) := by decide +kernel
theorem d_Br_gaps_1 : decode b_Br_gaps 1 = .ok (.iconst 0, 1) := by decide +kernel
theorem d_Br_gaps_2 : decode b_Br_gaps 2 = .ok (.sipush 1000, 3) := by decide +kernel
theorem d_Br_gaps_5 : decode b_Br_gaps 5 = .ok (.invokestatic 41, 3) := by decide +kernel
theorem d_Br_gaps_8 : decode b_Br_gaps 8 = .ok (.aload_n 0, 1) := by decide +kernel
theorem d_Br_gaps_9 : decode b_Br_gaps 9 = .ok (.iload_n 1, 1) := by decide +kernel
theorem d_Br_gaps_10 : decode b_Br_gaps 10 = .ok (.putfield 31, 3) := by decide +kernel
theorem d_Br_gaps_13 : decode b_Br_gaps 13 = .ok (.return_, 1) := by decide +kernel
abbrev b_Br_scanner : ByteArray := prog_1_method_6_code
abbrev n_Br_scanner : MethodName := ⟨"BeltRows", "scanner", "(III)I"⟩
theorem d_Br_scanner_0 : decode b_Br_scanner 0 = .ok (.aload_n 0, 1) := by decide +kernel
theorem d_Br_scanner_1 : decode b_Br_scanner 1 = .ok (.iload_n 1, 1) := by decide +kernel
theorem d_Br_scanner_2 : decode b_Br_scanner 2 = .ok (.invokevirtual 64, 3) := by decide +kernel
theorem d_Br_scanner_5 : decode b_Br_scanner 5 = .ok (.astore 4, 2) := by decide +kernel
theorem d_Br_scanner_7 : decode b_Br_scanner 7 = .ok (.iload_n 2, 1) := by decide +kernel
theorem d_Br_scanner_8 : decode b_Br_scanner 8 = .ok (.iconst 1, 1) := by decide +kernel
theorem d_Br_scanner_9 : decode b_Br_scanner 9 = .ok (.aload 4, 2) := by decide +kernel
theorem d_Br_scanner_11 : decode b_Br_scanner 11 = .ok (.getfield 94, 3) := by decide +kernel
theorem d_Br_scanner_14 : decode b_Br_scanner 14 = .ok (.invokestatic 41, 3) := by decide +kernel
theorem d_Br_scanner_17 : decode b_Br_scanner 17 = .ok (.iload_n 3, 1) := by decide +kernel
theorem d_Br_scanner_18 : decode b_Br_scanner 18 = .ok (.iconst 1, 1) := by decide +kernel
theorem d_Br_scanner_19 : decode b_Br_scanner 19 = .ok (.bipush 20, 2) := by decide +kernel
theorem d_Br_scanner_21 : decode b_Br_scanner 21 = .ok (.invokestatic 41, 3) := by decide +kernel
theorem d_Br_scanner_24 : decode b_Br_scanner 24 = .ok (.aload_n 0, 1) := by decide +kernel
theorem d_Br_scanner_25 : decode b_Br_scanner 25 = .ok (.getfield 19, 3) := by decide +kernel
theorem d_Br_scanner_28 : decode b_Br_scanner 28 = .ok (.invokevirtual 45, 3) := by decide +kernel
theorem d_Br_scanner_31 : decode b_Br_scanner 31 = .ok (.istore 5, 2) := by decide +kernel
theorem d_Br_scanner_33 : decode b_Br_scanner 33 = .ok (.iload 5, 2) := by decide +kernel
theorem d_Br_scanner_35 : decode b_Br_scanner 35 = .ok (.iconst 4, 1) := by decide +kernel
theorem d_Br_scanner_36 : decode b_Br_scanner 36 = .ok (.if_icmp .lt 13, 3) := by decide +kernel
theorem d_Br_scanner_39 : decode b_Br_scanner 39 = .ok (.new 49, 3) := by decide +kernel
theorem d_Br_scanner_42 : decode b_Br_scanner 42 = .ok (.dup, 1) := by decide +kernel
theorem d_Br_scanner_43 : decode b_Br_scanner 43 = .ok (.ldc 97, 2) := by decide +kernel
theorem d_Br_scanner_45 : decode b_Br_scanner 45 = .ok (.invokespecial 53, 3) := by decide +kernel
theorem d_Br_scanner_48 : decode b_Br_scanner 48 = .ok (.athrow, 1) := by decide +kernel
theorem d_Br_scanner_49 : decode b_Br_scanner 49 = .ok (.aload_n 0, 1) := by decide +kernel
theorem d_Br_scanner_50 : decode b_Br_scanner 50 = .ok (.getfield 19, 3) := by decide +kernel
theorem d_Br_scanner_53 : decode b_Br_scanner 53 = .ok (.new 99, 3) := by decide +kernel
theorem d_Br_scanner_56 : decode b_Br_scanner 56 = .ok (.dup, 1) := by decide +kernel
theorem d_Br_scanner_57 : decode b_Br_scanner 57 = .ok (.iload 5, 2) := by decide +kernel
theorem d_Br_scanner_59 : decode b_Br_scanner 59 = .ok (.aload 4, 2) := by decide +kernel
theorem d_Br_scanner_61 : decode b_Br_scanner 61 = .ok (.iload_n 2, 1) := by decide +kernel
theorem d_Br_scanner_62 : decode b_Br_scanner 62 = .ok (.iload_n 3, 1) := by decide +kernel
theorem d_Br_scanner_63 : decode b_Br_scanner 63 = .ok (.invokespecial 101, 3) := by decide +kernel
theorem d_Br_scanner_66 : decode b_Br_scanner 66 = .ok (.invokevirtual 60, 3) := by decide +kernel
theorem d_Br_scanner_69 : decode b_Br_scanner 69 = .ok (.pop, 1) := by decide +kernel
theorem d_Br_scanner_70 : decode b_Br_scanner 70 = .ok (.iload 5, 2) := by decide +kernel
theorem d_Br_scanner_72 : decode b_Br_scanner 72 = .ok (.ireturn, 1) := by decide +kernel
abbrev b_Br_item : ByteArray := prog_1_method_7_code
abbrev n_Br_item : MethodName := ⟨"BeltRows", "item", "(II)I"⟩
theorem d_Br_item_0 : decode b_Br_item 0 = .ok (.aload_n 0, 1) := by decide +kernel
theorem d_Br_item_1 : decode b_Br_item 1 = .ok (.iload_n 1, 1) := by decide +kernel
theorem d_Br_item_2 : decode b_Br_item 2 = .ok (.invokevirtual 64, 3) := by decide +kernel
theorem d_Br_item_5 : decode b_Br_item 5 = .ok (.astore_n 3, 1) := by decide +kernel
theorem d_Br_item_6 : decode b_Br_item 6 = .ok (.iload_n 2, 1) := by decide +kernel
theorem d_Br_item_7 : decode b_Br_item 7 = .ok (.iconst 1, 1) := by decide +kernel
theorem d_Br_item_8 : decode b_Br_item 8 = .ok (.sipush 2000, 3) := by decide +kernel
theorem d_Br_item_11 : decode b_Br_item 11 = .ok (.invokestatic 41, 3) := by decide +kernel
theorem d_Br_item_14 : decode b_Br_item 14 = .ok (.aload_n 0, 1) := by decide +kernel
theorem d_Br_item_15 : decode b_Br_item 15 = .ok (.getfield 16, 3) := by decide +kernel
theorem d_Br_item_18 : decode b_Br_item 18 = .ok (.invokevirtual 45, 3) := by decide +kernel
theorem d_Br_item_21 : decode b_Br_item 21 = .ok (.bipush 60, 2) := by decide +kernel
theorem d_Br_item_23 : decode b_Br_item 23 = .ok (.if_icmp .lt 13, 3) := by decide +kernel
theorem d_Br_item_26 : decode b_Br_item 26 = .ok (.new 49, 3) := by decide +kernel
theorem d_Br_item_29 : decode b_Br_item 29 = .ok (.dup, 1) := by decide +kernel
theorem d_Br_item_30 : decode b_Br_item 30 = .ok (.ldc 104, 2) := by decide +kernel
theorem d_Br_item_32 : decode b_Br_item 32 = .ok (.invokespecial 53, 3) := by decide +kernel
theorem d_Br_item_35 : decode b_Br_item 35 = .ok (.athrow, 1) := by decide +kernel
theorem d_Br_item_36 : decode b_Br_item 36 = .ok (.aload_n 0, 1) := by decide +kernel
theorem d_Br_item_37 : decode b_Br_item 37 = .ok (.aload_n 3, 1) := by decide +kernel
theorem d_Br_item_38 : decode b_Br_item 38 = .ok (.invokevirtual 106, 3) := by decide +kernel
theorem d_Br_item_41 : decode b_Br_item 41 = .ok (.istore 4, 2) := by decide +kernel
theorem d_Br_item_43 : decode b_Br_item 43 = .ok (.iload 4, 2) := by decide +kernel
theorem d_Br_item_45 : decode b_Br_item 45 = .ok (.ifCond .le 7, 3) := by decide +kernel
theorem d_Br_item_48 : decode b_Br_item 48 = .ok (.iload 4, 2) := by decide +kernel
theorem d_Br_item_50 : decode b_Br_item 50 = .ok (.ineg, 1) := by decide +kernel
theorem d_Br_item_51 : decode b_Br_item 51 = .ok (.ireturn, 1) := by decide +kernel
theorem d_Br_item_52 : decode b_Br_item 52 = .ok (.new 109, 3) := by decide +kernel
theorem d_Br_item_55 : decode b_Br_item 55 = .ok (.dup, 1) := by decide +kernel
theorem d_Br_item_56 : decode b_Br_item 56 = .ok (.aload_n 0, 1) := by decide +kernel
theorem d_Br_item_57 : decode b_Br_item 57 = .ok (.getfield 16, 3) := by decide +kernel
theorem d_Br_item_60 : decode b_Br_item 60 = .ok (.invokevirtual 45, 3) := by decide +kernel
theorem d_Br_item_63 : decode b_Br_item 63 = .ok (.iconst 1, 1) := by decide +kernel
theorem d_Br_item_64 : decode b_Br_item 64 = .ok (.iadd, 1) := by decide +kernel
theorem d_Br_item_65 : decode b_Br_item 65 = .ok (.iload_n 2, 1) := by decide +kernel
theorem d_Br_item_66 : decode b_Br_item 66 = .ok (.aload_n 0, 1) := by decide +kernel
theorem d_Br_item_67 : decode b_Br_item 67 = .ok (.getfield 35, 3) := by decide +kernel
theorem d_Br_item_70 : decode b_Br_item 70 = .ok (.invokespecial 111, 3) := by decide +kernel
theorem d_Br_item_73 : decode b_Br_item 73 = .ok (.astore 5, 2) := by decide +kernel
theorem d_Br_item_75 : decode b_Br_item 75 = .ok (.aload_n 0, 1) := by decide +kernel
theorem d_Br_item_76 : decode b_Br_item 76 = .ok (.getfield 16, 3) := by decide +kernel
theorem d_Br_item_79 : decode b_Br_item 79 = .ok (.aload 5, 2) := by decide +kernel
theorem d_Br_item_81 : decode b_Br_item 81 = .ok (.invokevirtual 60, 3) := by decide +kernel
theorem d_Br_item_84 : decode b_Br_item 84 = .ok (.pop, 1) := by decide +kernel
theorem d_Br_item_85 : decode b_Br_item 85 = .ok (.aload_n 3, 1) := by decide +kernel
theorem d_Br_item_86 : decode b_Br_item 86 = .ok (.aload 5, 2) := by decide +kernel
theorem d_Br_item_88 : decode b_Br_item 88 = .ok (.invokevirtual 112, 3) := by decide +kernel
theorem d_Br_item_91 : decode b_Br_item 91 = .ok (.aload 5, 2) := by decide +kernel
theorem d_Br_item_93 : decode b_Br_item 93 = .ok (.getfield 116, 3) := by decide +kernel
theorem d_Br_item_96 : decode b_Br_item 96 = .ok (.ireturn, 1) := by decide +kernel
abbrev b_Br_missingToRoom : ByteArray := prog_1_method_26_code
abbrev n_Br_missingToRoom : MethodName := ⟨"BeltRows", "missingToRoom", "(LBeltRows$Belt;)I"⟩
theorem d_Br_missingToRoom_0 : decode b_Br_missingToRoom 0 = .ok (.aload_n 1, 1) := by decide +kernel
theorem d_Br_missingToRoom_1 : decode b_Br_missingToRoom 1 = .ok (.getfield 236, 3) := by decide +kernel
theorem d_Br_missingToRoom_4 : decode b_Br_missingToRoom 4 = .ok (.ifnonnull 7, 3) := by decide +kernel
theorem d_Br_missingToRoom_7 : decode b_Br_missingToRoom 7 = .ok (.iconst 0, 1) := by decide +kernel
theorem d_Br_missingToRoom_8 : decode b_Br_missingToRoom 8 = .ok (.goto 19, 3) := by decide +kernel
theorem d_Br_missingToRoom_11 : decode b_Br_missingToRoom 11 = .ok (.iconst 0, 1) := by decide +kernel
theorem d_Br_missingToRoom_12 : decode b_Br_missingToRoom 12 = .ok (.aload_n 0, 1) := by decide +kernel
theorem d_Br_missingToRoom_13 : decode b_Br_missingToRoom 13 = .ok (.getfield 31, 3) := by decide +kernel
theorem d_Br_missingToRoom_16 : decode b_Br_missingToRoom 16 = .ok (.aload_n 1, 1) := by decide +kernel
theorem d_Br_missingToRoom_17 : decode b_Br_missingToRoom 17 = .ok (.getfield 236, 3) := by decide +kernel
theorem d_Br_missingToRoom_20 : decode b_Br_missingToRoom 20 = .ok (.invokevirtual 172, 3) := by decide +kernel
theorem d_Br_missingToRoom_23 : decode b_Br_missingToRoom 23 = .ok (.isub, 1) := by decide +kernel
theorem d_Br_missingToRoom_24 : decode b_Br_missingToRoom 24 = .ok (.invokestatic 239, 3) := by decide +kernel
theorem d_Br_missingToRoom_27 : decode b_Br_missingToRoom 27 = .ok (.ireturn, 1) := by decide +kernel
abbrev b_Br_divert : ByteArray := prog_1_method_8_code
abbrev n_Br_divert : MethodName := ⟨"BeltRows", "divert", "(II)I"⟩
theorem d_Br_divert_0 : decode b_Br_divert 0 = .ok (.aload_n 0, 1) := by decide +kernel
theorem d_Br_divert_1 : decode b_Br_divert 1 = .ok (.iload_n 1, 1) := by decide +kernel
theorem d_Br_divert_2 : decode b_Br_divert 2 = .ok (.invokevirtual 119, 3) := by decide +kernel
theorem d_Br_divert_5 : decode b_Br_divert 5 = .ok (.astore_n 3, 1) := by decide +kernel
theorem d_Br_divert_6 : decode b_Br_divert 6 = .ok (.iload_n 2, 1) := by decide +kernel
theorem d_Br_divert_7 : decode b_Br_divert 7 = .ok (.iconst 0, 1) := by decide +kernel
theorem d_Br_divert_8 : decode b_Br_divert 8 = .ok (.iconst 1, 1) := by decide +kernel
theorem d_Br_divert_9 : decode b_Br_divert 9 = .ok (.invokestatic 41, 3) := by decide +kernel
theorem d_Br_divert_12 : decode b_Br_divert 12 = .ok (.aload_n 3, 1) := by decide +kernel
theorem d_Br_divert_13 : decode b_Br_divert 13 = .ok (.invokestatic 123, 3) := by decide +kernel
theorem d_Br_divert_16 : decode b_Br_divert 16 = .ok (.aload_n 3, 1) := by decide +kernel
theorem d_Br_divert_17 : decode b_Br_divert 17 = .ok (.getfield 126, 3) := by decide +kernel
theorem d_Br_divert_20 : decode b_Br_divert 20 = .ok (.ifCond .eq 7, 3) := by decide +kernel
theorem d_Br_divert_23 : decode b_Br_divert 23 = .ok (.iconst 2, 1) := by decide +kernel
theorem d_Br_divert_24 : decode b_Br_divert 24 = .ok (.goto 4, 3) := by decide +kernel
theorem d_Br_divert_27 : decode b_Br_divert 27 = .ok (.iconst 1, 1) := by decide +kernel
theorem d_Br_divert_28 : decode b_Br_divert 28 = .ok (.istore 4, 2) := by decide +kernel
theorem d_Br_divert_30 : decode b_Br_divert 30 = .ok (.aload_n 3, 1) := by decide +kernel
theorem d_Br_divert_31 : decode b_Br_divert 31 = .ok (.iload_n 2, 1) := by decide +kernel
theorem d_Br_divert_32 : decode b_Br_divert 32 = .ok (.putfield 129, 3) := by decide +kernel
theorem d_Br_divert_35 : decode b_Br_divert 35 = .ok (.aload_n 3, 1) := by decide +kernel
theorem d_Br_divert_36 : decode b_Br_divert 36 = .ok (.iconst 1, 1) := by decide +kernel
theorem d_Br_divert_37 : decode b_Br_divert 37 = .ok (.putfield 126, 3) := by decide +kernel
theorem d_Br_divert_40 : decode b_Br_divert 40 = .ok (.iload 4, 2) := by decide +kernel
theorem d_Br_divert_42 : decode b_Br_divert 42 = .ok (.ireturn, 1) := by decide +kernel
abbrev b_Br_findItem : ByteArray := prog_1_method_23_code
abbrev n_Br_findItem : MethodName := ⟨"BeltRows", "findItem", "(I)LBeltRows$Item;"⟩
theorem d_Br_findItem_0 : decode b_Br_findItem 0 = .ok (.iload_n 1, 1) := by decide +kernel
theorem d_Br_findItem_1 : decode b_Br_findItem 1 = .ok (.iconst 1, 1) := by decide +kernel
theorem d_Br_findItem_2 : decode b_Br_findItem 2 = .ok (.if_icmp .lt 14, 3) := by decide +kernel
theorem d_Br_findItem_5 : decode b_Br_findItem 5 = .ok (.iload_n 1, 1) := by decide +kernel
theorem d_Br_findItem_6 : decode b_Br_findItem 6 = .ok (.aload_n 0, 1) := by decide +kernel
theorem d_Br_findItem_7 : decode b_Br_findItem 7 = .ok (.getfield 16, 3) := by decide +kernel
theorem d_Br_findItem_10 : decode b_Br_findItem 10 = .ok (.invokevirtual 45, 3) := by decide +kernel
theorem d_Br_findItem_13 : decode b_Br_findItem 13 = .ok (.if_icmp .le 13, 3) := by decide +kernel
theorem d_Br_findItem_16 : decode b_Br_findItem 16 = .ok (.new 135, 3) := by decide +kernel
theorem d_Br_findItem_19 : decode b_Br_findItem 19 = .ok (.dup, 1) := by decide +kernel
theorem d_Br_findItem_20 : decode b_Br_findItem 20 = .ok (.ldc 231, 2) := by decide +kernel
theorem d_Br_findItem_22 : decode b_Br_findItem 22 = .ok (.invokespecial 139, 3) := by decide +kernel
theorem d_Br_findItem_25 : decode b_Br_findItem 25 = .ok (.athrow, 1) := by decide +kernel
theorem d_Br_findItem_26 : decode b_Br_findItem 26 = .ok (.aload_n 0, 1) := by decide +kernel
theorem d_Br_findItem_27 : decode b_Br_findItem 27 = .ok (.getfield 16, 3) := by decide +kernel
theorem d_Br_findItem_30 : decode b_Br_findItem 30 = .ok (.iload_n 1, 1) := by decide +kernel
theorem d_Br_findItem_31 : decode b_Br_findItem 31 = .ok (.iconst 1, 1) := by decide +kernel
theorem d_Br_findItem_32 : decode b_Br_findItem 32 = .ok (.isub, 1) := by decide +kernel
theorem d_Br_findItem_33 : decode b_Br_findItem 33 = .ok (.invokevirtual 140, 3) := by decide +kernel
theorem d_Br_findItem_36 : decode b_Br_findItem 36 = .ok (.checkcast 109, 3) := by decide +kernel
theorem d_Br_findItem_39 : decode b_Br_findItem 39 = .ok (.areturn, 1) := by decide +kernel
abbrev b_Br_checkOnBelt : ByteArray := prog_1_method_21_code
abbrev n_Br_checkOnBelt : MethodName := ⟨"BeltRows", "checkOnBelt", "(LBeltRows$Item;)V"⟩
theorem d_Br_checkOnBelt_0 : decode b_Br_checkOnBelt 0 = .ok (.aload_n 0, 1) := by decide +kernel
theorem d_Br_checkOnBelt_1 : decode b_Br_checkOnBelt 1 = .ok (.getfield 194, 3) := by decide +kernel
theorem d_Br_checkOnBelt_4 : decode b_Br_checkOnBelt 4 = .ok (.ifCond .eq 13, 3) := by decide +kernel
theorem d_Br_checkOnBelt_7 : decode b_Br_checkOnBelt 7 = .ok (.new 163, 3) := by decide +kernel
theorem d_Br_checkOnBelt_10 : decode b_Br_checkOnBelt 10 = .ok (.dup, 1) := by decide +kernel
theorem d_Br_checkOnBelt_11 : decode b_Br_checkOnBelt 11 = .ok (.ldc 227, 2) := by decide +kernel
theorem d_Br_checkOnBelt_13 : decode b_Br_checkOnBelt 13 = .ok (.invokespecial 167, 3) := by decide +kernel
theorem d_Br_checkOnBelt_16 : decode b_Br_checkOnBelt 16 = .ok (.athrow, 1) := by decide +kernel
theorem d_Br_checkOnBelt_17 : decode b_Br_checkOnBelt 17 = .ok (.return_, 1) := by decide +kernel
abbrev b_Br_step : ByteArray := prog_1_method_9_code
abbrev n_Br_step : MethodName := ⟨"BeltRows", "step", "(I)I"⟩
theorem d_Br_step_0 : decode b_Br_step 0 = .ok (.iload_n 1, 1) := by decide +kernel
theorem d_Br_step_1 : decode b_Br_step 1 = .ok (.iconst 0, 1) := by decide +kernel
theorem d_Br_step_2 : decode b_Br_step 2 = .ok (.bipush 100, 2) := by decide +kernel
theorem d_Br_step_4 : decode b_Br_step 4 = .ok (.invokestatic 41, 3) := by decide +kernel
theorem d_Br_step_7 : decode b_Br_step 7 = .ok (.aload_n 0, 1) := by decide +kernel
theorem d_Br_step_8 : decode b_Br_step 8 = .ok (.getfield 22, 3) := by decide +kernel
theorem d_Br_step_11 : decode b_Br_step 11 = .ok (.invokevirtual 45, 3) := by decide +kernel
theorem d_Br_step_14 : decode b_Br_step 14 = .ok (.istore_n 2, 1) := by decide +kernel
theorem d_Br_step_15 : decode b_Br_step 15 = .ok (.iconst 0, 1) := by decide +kernel
theorem d_Br_step_16 : decode b_Br_step 16 = .ok (.istore_n 3, 1) := by decide +kernel
theorem d_Br_step_17 : decode b_Br_step 17 = .ok (.iload_n 3, 1) := by decide +kernel
theorem d_Br_step_18 : decode b_Br_step 18 = .ok (.iload_n 1, 1) := by decide +kernel
theorem d_Br_step_19 : decode b_Br_step 19 = .ok (.if_icmp .ge 13, 3) := by decide +kernel
theorem d_Br_step_22 : decode b_Br_step 22 = .ok (.aload_n 0, 1) := by decide +kernel
theorem d_Br_step_23 : decode b_Br_step 23 = .ok (.invokevirtual 132, 3) := by decide +kernel
theorem d_Br_step_26 : decode b_Br_step 26 = .ok (.iinc 3 1, 3) := by decide +kernel
theorem d_Br_step_29 : decode b_Br_step 29 = .ok (.goto (-12), 3) := by decide +kernel
theorem d_Br_step_32 : decode b_Br_step 32 = .ok (.aload_n 0, 1) := by decide +kernel
theorem d_Br_step_33 : decode b_Br_step 33 = .ok (.getfield 22, 3) := by decide +kernel
theorem d_Br_step_36 : decode b_Br_step 36 = .ok (.invokevirtual 45, 3) := by decide +kernel
theorem d_Br_step_39 : decode b_Br_step 39 = .ok (.iload_n 2, 1) := by decide +kernel
theorem d_Br_step_40 : decode b_Br_step 40 = .ok (.isub, 1) := by decide +kernel
theorem d_Br_step_41 : decode b_Br_step 41 = .ok (.ireturn, 1) := by decide +kernel
abbrev b_Br_passSecond : ByteArray := prog_1_method_27_code
abbrev n_Br_passSecond : MethodName := ⟨"BeltRows", "passSecond", "()V"⟩
theorem d_Br_passSecond_0 : decode b_Br_passSecond 0 = .ok (.aload_n 0, 1) := by decide +kernel
theorem d_Br_passSecond_1 : decode b_Br_passSecond 1 = .ok (.dup, 1) := by decide +kernel
theorem d_Br_passSecond_2 : decode b_Br_passSecond 2 = .ok (.getfield 35, 3) := by decide +kernel
theorem d_Br_passSecond_5 : decode b_Br_passSecond 5 = .ok (.iconst 1, 1) := by decide +kernel
theorem d_Br_passSecond_6 : decode b_Br_passSecond 6 = .ok (.iadd, 1) := by decide +kernel
theorem d_Br_passSecond_7 : decode b_Br_passSecond 7 = .ok (.putfield 35, 3) := by decide +kernel
theorem d_Br_passSecond_10 : decode b_Br_passSecond 10 = .ok (.aload_n 0, 1) := by decide +kernel
theorem d_Br_passSecond_11 : decode b_Br_passSecond 11 = .ok (.invokevirtual 245, 3) := by decide +kernel
theorem d_Br_passSecond_14 : decode b_Br_passSecond 14 = .ok (.aload_n 0, 1) := by decide +kernel
theorem d_Br_passSecond_15 : decode b_Br_passSecond 15 = .ok (.getfield 10, 3) := by decide +kernel
theorem d_Br_passSecond_18 : decode b_Br_passSecond 18 = .ok (.invokevirtual 45, 3) := by decide +kernel
theorem d_Br_passSecond_21 : decode b_Br_passSecond 21 = .ok (.iconst 1, 1) := by decide +kernel
theorem d_Br_passSecond_22 : decode b_Br_passSecond 22 = .ok (.isub, 1) := by decide +kernel
theorem d_Br_passSecond_23 : decode b_Br_passSecond 23 = .ok (.istore_n 1, 1) := by decide +kernel
theorem d_Br_passSecond_24 : decode b_Br_passSecond 24 = .ok (.iload_n 1, 1) := by decide +kernel
theorem d_Br_passSecond_25 : decode b_Br_passSecond 25 = .ok (.ifCond .lt 38, 3) := by decide +kernel
theorem d_Br_passSecond_28 : decode b_Br_passSecond 28 = .ok (.aload_n 0, 1) := by decide +kernel
theorem d_Br_passSecond_29 : decode b_Br_passSecond 29 = .ok (.getfield 10, 3) := by decide +kernel
theorem d_Br_passSecond_32 : decode b_Br_passSecond 32 = .ok (.iload_n 1, 1) := by decide +kernel
theorem d_Br_passSecond_33 : decode b_Br_passSecond 33 = .ok (.invokevirtual 140, 3) := by decide +kernel
theorem d_Br_passSecond_36 : decode b_Br_passSecond 36 = .ok (.checkcast 56, 3) := by decide +kernel
theorem d_Br_passSecond_39 : decode b_Br_passSecond 39 = .ok (.astore_n 2, 1) := by decide +kernel
theorem d_Br_passSecond_40 : decode b_Br_passSecond 40 = .ok (.aload_n 2, 1) := by decide +kernel
theorem d_Br_passSecond_41 : decode b_Br_passSecond 41 = .ok (.getfield 90, 3) := by decide +kernel
theorem d_Br_passSecond_44 : decode b_Br_passSecond 44 = .ok (.ifCond .eq 13, 3) := by decide +kernel
theorem d_Br_passSecond_47 : decode b_Br_passSecond 47 = .ok (.aload_n 0, 1) := by decide +kernel
theorem d_Br_passSecond_48 : decode b_Br_passSecond 48 = .ok (.aload_n 2, 1) := by decide +kernel
theorem d_Br_passSecond_49 : decode b_Br_passSecond 49 = .ok (.invokevirtual 248, 3) := by decide +kernel
theorem d_Br_passSecond_52 : decode b_Br_passSecond 52 = .ok (.aload_n 0, 1) := by decide +kernel
theorem d_Br_passSecond_53 : decode b_Br_passSecond 53 = .ok (.aload_n 2, 1) := by decide +kernel
theorem d_Br_passSecond_54 : decode b_Br_passSecond 54 = .ok (.invokevirtual 252, 3) := by decide +kernel
theorem d_Br_passSecond_57 : decode b_Br_passSecond 57 = .ok (.iinc 1 (-1), 3) := by decide +kernel
theorem d_Br_passSecond_60 : decode b_Br_passSecond 60 = .ok (.goto (-36), 3) := by decide +kernel
theorem d_Br_passSecond_63 : decode b_Br_passSecond 63 = .ok (.iconst 0, 1) := by decide +kernel
theorem d_Br_passSecond_64 : decode b_Br_passSecond 64 = .ok (.istore_n 1, 1) := by decide +kernel
theorem d_Br_passSecond_65 : decode b_Br_passSecond 65 = .ok (.iload_n 1, 1) := by decide +kernel
theorem d_Br_passSecond_66 : decode b_Br_passSecond 66 = .ok (.aload_n 0, 1) := by decide +kernel
theorem d_Br_passSecond_67 : decode b_Br_passSecond 67 = .ok (.getfield 10, 3) := by decide +kernel
theorem d_Br_passSecond_70 : decode b_Br_passSecond 70 = .ok (.invokevirtual 45, 3) := by decide +kernel
theorem d_Br_passSecond_73 : decode b_Br_passSecond 73 = .ok (.if_icmp .ge 33, 3) := by decide +kernel
theorem d_Br_passSecond_76 : decode b_Br_passSecond 76 = .ok (.aload_n 0, 1) := by decide +kernel
theorem d_Br_passSecond_77 : decode b_Br_passSecond 77 = .ok (.getfield 10, 3) := by decide +kernel
theorem d_Br_passSecond_80 : decode b_Br_passSecond 80 = .ok (.iload_n 1, 1) := by decide +kernel
theorem d_Br_passSecond_81 : decode b_Br_passSecond 81 = .ok (.invokevirtual 140, 3) := by decide +kernel
theorem d_Br_passSecond_84 : decode b_Br_passSecond 84 = .ok (.checkcast 56, 3) := by decide +kernel
theorem d_Br_passSecond_87 : decode b_Br_passSecond 87 = .ok (.astore_n 2, 1) := by decide +kernel
theorem d_Br_passSecond_88 : decode b_Br_passSecond 88 = .ok (.aload_n 2, 1) := by decide +kernel
theorem d_Br_passSecond_89 : decode b_Br_passSecond 89 = .ok (.getfield 90, 3) := by decide +kernel
theorem d_Br_passSecond_92 : decode b_Br_passSecond 92 = .ok (.ifCond .eq 8, 3) := by decide +kernel
theorem d_Br_passSecond_95 : decode b_Br_passSecond 95 = .ok (.aload_n 0, 1) := by decide +kernel
theorem d_Br_passSecond_96 : decode b_Br_passSecond 96 = .ok (.aload_n 2, 1) := by decide +kernel
theorem d_Br_passSecond_97 : decode b_Br_passSecond 97 = .ok (.invokevirtual 255, 3) := by decide +kernel
theorem d_Br_passSecond_100 : decode b_Br_passSecond 100 = .ok (.iinc 1 1, 3) := by decide +kernel
theorem d_Br_passSecond_103 : decode b_Br_passSecond 103 = .ok (.goto (-38), 3) := by decide +kernel
theorem d_Br_passSecond_106 : decode b_Br_passSecond 106 = .ok (.return_, 1) := by decide +kernel
abbrev b_Br_tellReads : ByteArray := prog_1_method_28_code
abbrev n_Br_tellReads : MethodName := ⟨"BeltRows", "tellReads", "()V"⟩
theorem d_Br_tellReads_0 : decode b_Br_tellReads 0 = .ok (.aload_n 0, 1) := by decide +kernel
theorem d_Br_tellReads_1 : decode b_Br_tellReads 1 = .ok (.getfield 25, 3) := by decide +kernel
theorem d_Br_tellReads_4 : decode b_Br_tellReads 4 = .ok (.invokevirtual 45, 3) := by decide +kernel
theorem d_Br_tellReads_7 : decode b_Br_tellReads 7 = .ok (.istore_n 1, 1) := by decide +kernel
theorem d_Br_tellReads_8 : decode b_Br_tellReads 8 = .ok (.iconst 0, 1) := by decide +kernel
theorem d_Br_tellReads_9 : decode b_Br_tellReads 9 = .ok (.istore_n 2, 1) := by decide +kernel
theorem d_Br_tellReads_10 : decode b_Br_tellReads 10 = .ok (.iconst 0, 1) := by decide +kernel
theorem d_Br_tellReads_11 : decode b_Br_tellReads 11 = .ok (.istore_n 3, 1) := by decide +kernel
theorem d_Br_tellReads_12 : decode b_Br_tellReads 12 = .ok (.iload_n 3, 1) := by decide +kernel
theorem d_Br_tellReads_13 : decode b_Br_tellReads 13 = .ok (.iload_n 1, 1) := by decide +kernel
theorem d_Br_tellReads_14 : decode b_Br_tellReads 14 = .ok (.if_icmp .ge 57, 3) := by decide +kernel
theorem d_Br_tellReads_17 : decode b_Br_tellReads 17 = .ok (.aload_n 0, 1) := by decide +kernel
theorem d_Br_tellReads_18 : decode b_Br_tellReads 18 = .ok (.getfield 25, 3) := by decide +kernel
theorem d_Br_tellReads_21 : decode b_Br_tellReads 21 = .ok (.iload_n 3, 1) := by decide +kernel
theorem d_Br_tellReads_22 : decode b_Br_tellReads 22 = .ok (.invokevirtual 140, 3) := by decide +kernel
theorem d_Br_tellReads_25 : decode b_Br_tellReads 25 = .ok (.checkcast 144, 3) := by decide +kernel
theorem d_Br_tellReads_28 : decode b_Br_tellReads 28 = .ok (.astore 4, 2) := by decide +kernel
theorem d_Br_tellReads_30 : decode b_Br_tellReads 30 = .ok (.aload 4, 2) := by decide +kernel
theorem d_Br_tellReads_32 : decode b_Br_tellReads 32 = .ok (.getfield 146, 3) := by decide +kernel
theorem d_Br_tellReads_35 : decode b_Br_tellReads 35 = .ok (.aload_n 0, 1) := by decide +kernel
theorem d_Br_tellReads_36 : decode b_Br_tellReads 36 = .ok (.getfield 35, 3) := by decide +kernel
theorem d_Br_tellReads_39 : decode b_Br_tellReads 39 = .ok (.if_icmp .ne 12, 3) := by decide +kernel
theorem d_Br_tellReads_42 : decode b_Br_tellReads 42 = .ok (.aload_n 0, 1) := by decide +kernel
theorem d_Br_tellReads_43 : decode b_Br_tellReads 43 = .ok (.aload 4, 2) := by decide +kernel
theorem d_Br_tellReads_45 : decode b_Br_tellReads 45 = .ok (.invokevirtual 258, 3) := by decide +kernel
theorem d_Br_tellReads_48 : decode b_Br_tellReads 48 = .ok (.goto 17, 3) := by decide +kernel
theorem d_Br_tellReads_51 : decode b_Br_tellReads 51 = .ok (.aload_n 0, 1) := by decide +kernel
theorem d_Br_tellReads_52 : decode b_Br_tellReads 52 = .ok (.getfield 25, 3) := by decide +kernel
theorem d_Br_tellReads_55 : decode b_Br_tellReads 55 = .ok (.iload_n 2, 1) := by decide +kernel
theorem d_Br_tellReads_56 : decode b_Br_tellReads 56 = .ok (.aload 4, 2) := by decide +kernel
theorem d_Br_tellReads_58 : decode b_Br_tellReads 58 = .ok (.invokevirtual 262, 3) := by decide +kernel
theorem d_Br_tellReads_61 : decode b_Br_tellReads 61 = .ok (.pop, 1) := by decide +kernel
theorem d_Br_tellReads_62 : decode b_Br_tellReads 62 = .ok (.iinc 2 1, 3) := by decide +kernel
theorem d_Br_tellReads_65 : decode b_Br_tellReads 65 = .ok (.iinc 3 1, 3) := by decide +kernel
theorem d_Br_tellReads_68 : decode b_Br_tellReads 68 = .ok (.goto (-56), 3) := by decide +kernel
theorem d_Br_tellReads_71 : decode b_Br_tellReads 71 = .ok (.iload_n 1, 1) := by decide +kernel
theorem d_Br_tellReads_72 : decode b_Br_tellReads 72 = .ok (.iconst 1, 1) := by decide +kernel
theorem d_Br_tellReads_73 : decode b_Br_tellReads 73 = .ok (.isub, 1) := by decide +kernel
theorem d_Br_tellReads_74 : decode b_Br_tellReads 74 = .ok (.istore_n 3, 1) := by decide +kernel
theorem d_Br_tellReads_75 : decode b_Br_tellReads 75 = .ok (.iload_n 3, 1) := by decide +kernel
theorem d_Br_tellReads_76 : decode b_Br_tellReads 76 = .ok (.iload_n 2, 1) := by decide +kernel
theorem d_Br_tellReads_77 : decode b_Br_tellReads 77 = .ok (.if_icmp .lt 18, 3) := by decide +kernel
theorem d_Br_tellReads_80 : decode b_Br_tellReads 80 = .ok (.aload_n 0, 1) := by decide +kernel
theorem d_Br_tellReads_81 : decode b_Br_tellReads 81 = .ok (.getfield 25, 3) := by decide +kernel
theorem d_Br_tellReads_84 : decode b_Br_tellReads 84 = .ok (.iload_n 3, 1) := by decide +kernel
theorem d_Br_tellReads_85 : decode b_Br_tellReads 85 = .ok (.invokevirtual 266, 3) := by decide +kernel
theorem d_Br_tellReads_88 : decode b_Br_tellReads 88 = .ok (.pop, 1) := by decide +kernel
theorem d_Br_tellReads_89 : decode b_Br_tellReads 89 = .ok (.iinc 3 (-1), 3) := by decide +kernel
theorem d_Br_tellReads_92 : decode b_Br_tellReads 92 = .ok (.goto (-17), 3) := by decide +kernel
theorem d_Br_tellReads_95 : decode b_Br_tellReads 95 = .ok (.return_, 1) := by decide +kernel
abbrev b_Br_tell : ByteArray := prog_1_method_29_code
abbrev n_Br_tell : MethodName := ⟨"BeltRows", "tell", "(LBeltRows$Edge;)V"⟩
theorem d_Br_tell_0 : decode b_Br_tell 0 = .ok (.aload_n 0, 1) := by decide +kernel
theorem d_Br_tell_1 : decode b_Br_tell 1 = .ok (.getfield 22, 3) := by decide +kernel
theorem d_Br_tell_4 : decode b_Br_tell 4 = .ok (.invokevirtual 45, 3) := by decide +kernel
theorem d_Br_tell_7 : decode b_Br_tell 7 = .ok (.sipush 4096, 3) := by decide +kernel
theorem d_Br_tell_10 : decode b_Br_tell 10 = .ok (.if_icmp .ge 12, 3) := by decide +kernel
theorem d_Br_tell_13 : decode b_Br_tell 13 = .ok (.aload_n 0, 1) := by decide +kernel
theorem d_Br_tell_14 : decode b_Br_tell 14 = .ok (.getfield 22, 3) := by decide +kernel
theorem d_Br_tell_17 : decode b_Br_tell 17 = .ok (.aload_n 1, 1) := by decide +kernel
theorem d_Br_tell_18 : decode b_Br_tell 18 = .ok (.invokevirtual 60, 3) := by decide +kernel
theorem d_Br_tell_21 : decode b_Br_tell 21 = .ok (.pop, 1) := by decide +kernel
theorem d_Br_tell_22 : decode b_Br_tell 22 = .ok (.return_, 1) := by decide +kernel
abbrev b_Br_letOut : ByteArray := prog_1_method_30_code
abbrev n_Br_letOut : MethodName := ⟨"BeltRows", "letOut", "(LBeltRows$Belt;)V"⟩
theorem d_Br_letOut_0 : decode b_Br_letOut 0 = .ok (.aload_n 1, 1) := by decide +kernel
theorem d_Br_letOut_1 : decode b_Br_letOut 1 = .ok (.invokevirtual 269, 3) := by decide +kernel
theorem d_Br_letOut_4 : decode b_Br_letOut 4 = .ok (.astore_n 2, 1) := by decide +kernel
theorem d_Br_letOut_5 : decode b_Br_letOut 5 = .ok (.aload_n 2, 1) := by decide +kernel
theorem d_Br_letOut_6 : decode b_Br_letOut 6 = .ok (.ifnull 11, 3) := by decide +kernel
theorem d_Br_letOut_9 : decode b_Br_letOut 9 = .ok (.aload_n 1, 1) := by decide +kernel
theorem d_Br_letOut_10 : decode b_Br_letOut 10 = .ok (.aload_n 2, 1) := by decide +kernel
theorem d_Br_letOut_11 : decode b_Br_letOut 11 = .ok (.invokevirtual 273, 3) := by decide +kernel
theorem d_Br_letOut_14 : decode b_Br_letOut 14 = .ok (.ifnull 4, 3) := by decide +kernel
theorem d_Br_letOut_17 : decode b_Br_letOut 17 = .ok (.return_, 1) := by decide +kernel
theorem d_Br_letOut_18 : decode b_Br_letOut 18 = .ok (.aload_n 2, 1) := by decide +kernel
theorem d_Br_letOut_19 : decode b_Br_letOut 19 = .ok (.iconst 1, 1) := by decide +kernel
theorem d_Br_letOut_20 : decode b_Br_letOut 20 = .ok (.invokevirtual 177, 3) := by decide +kernel
theorem d_Br_letOut_23 : decode b_Br_letOut 23 = .ok (.aload_n 0, 1) := by decide +kernel
theorem d_Br_letOut_24 : decode b_Br_letOut 24 = .ok (.getfield 28, 3) := by decide +kernel
theorem d_Br_letOut_27 : decode b_Br_letOut 27 = .ok (.aload_n 2, 1) := by decide +kernel
theorem d_Br_letOut_28 : decode b_Br_letOut 28 = .ok (.invokevirtual 60, 3) := by decide +kernel
theorem d_Br_letOut_31 : decode b_Br_letOut 31 = .ok (.pop, 1) := by decide +kernel
theorem d_Br_letOut_32 : decode b_Br_letOut 32 = .ok (.aload_n 0, 1) := by decide +kernel
theorem d_Br_letOut_33 : decode b_Br_letOut 33 = .ok (.dup, 1) := by decide +kernel
theorem d_Br_letOut_34 : decode b_Br_letOut 34 = .ok (.getfield 38, 3) := by decide +kernel
theorem d_Br_letOut_37 : decode b_Br_letOut 37 = .ok (.aload_n 0, 1) := by decide +kernel
theorem d_Br_letOut_38 : decode b_Br_letOut 38 = .ok (.getfield 35, 3) := by decide +kernel
theorem d_Br_letOut_41 : decode b_Br_letOut 41 = .ok (.aload_n 2, 1) := by decide +kernel
theorem d_Br_letOut_42 : decode b_Br_letOut 42 = .ok (.getfield 202, 3) := by decide +kernel
theorem d_Br_letOut_45 : decode b_Br_letOut 45 = .ok (.isub, 1) := by decide +kernel
theorem d_Br_letOut_46 : decode b_Br_letOut 46 = .ok (.iadd, 1) := by decide +kernel
theorem d_Br_letOut_47 : decode b_Br_letOut 47 = .ok (.putfield 38, 3) := by decide +kernel
theorem d_Br_letOut_50 : decode b_Br_letOut 50 = .ok (.aload_n 0, 1) := by decide +kernel
theorem d_Br_letOut_51 : decode b_Br_letOut 51 = .ok (.new 144, 3) := by decide +kernel
theorem d_Br_letOut_54 : decode b_Br_letOut 54 = .ok (.dup, 1) := by decide +kernel
theorem d_Br_letOut_55 : decode b_Br_letOut 55 = .ok (.aload_n 0, 1) := by decide +kernel
theorem d_Br_letOut_56 : decode b_Br_letOut 56 = .ok (.getfield 35, 3) := by decide +kernel
theorem d_Br_letOut_59 : decode b_Br_letOut 59 = .ok (.iconst 1, 1) := by decide +kernel
theorem d_Br_letOut_60 : decode b_Br_letOut 60 = .ok (.aload_n 2, 1) := by decide +kernel
theorem d_Br_letOut_61 : decode b_Br_letOut 61 = .ok (.getfield 116, 3) := by decide +kernel
theorem d_Br_letOut_64 : decode b_Br_letOut 64 = .ok (.aload_n 1, 1) := by decide +kernel
theorem d_Br_letOut_65 : decode b_Br_letOut 65 = .ok (.getfield 197, 3) := by decide +kernel
theorem d_Br_letOut_68 : decode b_Br_letOut 68 = .ok (.invokespecial 277, 3) := by decide +kernel
theorem d_Br_letOut_71 : decode b_Br_letOut 71 = .ok (.invokevirtual 258, 3) := by decide +kernel
theorem d_Br_letOut_74 : decode b_Br_letOut 74 = .ok (.return_, 1) := by decide +kernel
abbrev b_Br_passOnTo : ByteArray := prog_1_method_31_code
abbrev n_Br_passOnTo : MethodName := ⟨"BeltRows", "passOnTo", "(LBeltRows$Belt;)V"⟩
theorem d_Br_passOnTo_0 : decode b_Br_passOnTo 0 = .ok (.aload_n 0, 1) := by decide +kernel
theorem d_Br_passOnTo_1 : decode b_Br_passOnTo 1 = .ok (.aload_n 1, 1) := by decide +kernel
theorem d_Br_passOnTo_2 : decode b_Br_passOnTo 2 = .ok (.invokevirtual 106, 3) := by decide +kernel
theorem d_Br_passOnTo_5 : decode b_Br_passOnTo 5 = .ok (.ifCond .le 4, 3) := by decide +kernel
theorem d_Br_passOnTo_8 : decode b_Br_passOnTo 8 = .ok (.return_, 1) := by decide +kernel
theorem d_Br_passOnTo_9 : decode b_Br_passOnTo 9 = .ok (.aload_n 0, 1) := by decide +kernel
theorem d_Br_passOnTo_10 : decode b_Br_passOnTo 10 = .ok (.aload_n 1, 1) := by decide +kernel
theorem d_Br_passOnTo_11 : decode b_Br_passOnTo 11 = .ok (.invokevirtual 280, 3) := by decide +kernel
theorem d_Br_passOnTo_14 : decode b_Br_passOnTo 14 = .ok (.astore_n 2, 1) := by decide +kernel
theorem d_Br_passOnTo_15 : decode b_Br_passOnTo 15 = .ok (.aload_n 2, 1) := by decide +kernel
theorem d_Br_passOnTo_16 : decode b_Br_passOnTo 16 = .ok (.ifnonnull 7, 3) := by decide +kernel
theorem d_Br_passOnTo_19 : decode b_Br_passOnTo 19 = .ok (.aconst_null, 1) := by decide +kernel
theorem d_Br_passOnTo_20 : decode b_Br_passOnTo 20 = .ok (.goto 7, 3) := by decide +kernel
theorem d_Br_passOnTo_23 : decode b_Br_passOnTo 23 = .ok (.aload_n 2, 1) := by decide +kernel
theorem d_Br_passOnTo_24 : decode b_Br_passOnTo 24 = .ok (.invokevirtual 269, 3) := by decide +kernel
theorem d_Br_passOnTo_27 : decode b_Br_passOnTo 27 = .ok (.astore_n 3, 1) := by decide +kernel
theorem d_Br_passOnTo_28 : decode b_Br_passOnTo 28 = .ok (.aload_n 3, 1) := by decide +kernel
theorem d_Br_passOnTo_29 : decode b_Br_passOnTo 29 = .ok (.ifnonnull 7, 3) := by decide +kernel
theorem d_Br_passOnTo_32 : decode b_Br_passOnTo 32 = .ok (.aconst_null, 1) := by decide +kernel
theorem d_Br_passOnTo_33 : decode b_Br_passOnTo 33 = .ok (.goto 8, 3) := by decide +kernel
theorem d_Br_passOnTo_36 : decode b_Br_passOnTo 36 = .ok (.aload_n 2, 1) := by decide +kernel
theorem d_Br_passOnTo_37 : decode b_Br_passOnTo 37 = .ok (.aload_n 3, 1) := by decide +kernel
theorem d_Br_passOnTo_38 : decode b_Br_passOnTo 38 = .ok (.invokevirtual 273, 3) := by decide +kernel
theorem d_Br_passOnTo_41 : decode b_Br_passOnTo 41 = .ok (.astore 4, 2) := by decide +kernel
theorem d_Br_passOnTo_43 : decode b_Br_passOnTo 43 = .ok (.aload 4, 2) := by decide +kernel
theorem d_Br_passOnTo_45 : decode b_Br_passOnTo 45 = .ok (.ifnonnull 4, 3) := by decide +kernel
theorem d_Br_passOnTo_48 : decode b_Br_passOnTo 48 = .ok (.return_, 1) := by decide +kernel
theorem d_Br_passOnTo_49 : decode b_Br_passOnTo 49 = .ok (.aload 4, 2) := by decide +kernel
theorem d_Br_passOnTo_51 : decode b_Br_passOnTo 51 = .ok (.dup, 1) := by decide +kernel
theorem d_Br_passOnTo_52 : decode b_Br_passOnTo 52 = .ok (.getfield 210, 3) := by decide +kernel
theorem d_Br_passOnTo_55 : decode b_Br_passOnTo 55 = .ok (.iconst 1, 1) := by decide +kernel
theorem d_Br_passOnTo_56 : decode b_Br_passOnTo 56 = .ok (.iadd, 1) := by decide +kernel
theorem d_Br_passOnTo_57 : decode b_Br_passOnTo 57 = .ok (.putfield 210, 3) := by decide +kernel
theorem d_Br_passOnTo_60 : decode b_Br_passOnTo 60 = .ok (.aload_n 2, 1) := by decide +kernel
theorem d_Br_passOnTo_61 : decode b_Br_passOnTo 61 = .ok (.aload_n 3, 1) := by decide +kernel
theorem d_Br_passOnTo_62 : decode b_Br_passOnTo 62 = .ok (.invokevirtual 284, 3) := by decide +kernel
theorem d_Br_passOnTo_65 : decode b_Br_passOnTo 65 = .ok (.aload_n 1, 1) := by decide +kernel
theorem d_Br_passOnTo_66 : decode b_Br_passOnTo 66 = .ok (.aload_n 3, 1) := by decide +kernel
theorem d_Br_passOnTo_67 : decode b_Br_passOnTo 67 = .ok (.invokevirtual 112, 3) := by decide +kernel
theorem d_Br_passOnTo_70 : decode b_Br_passOnTo 70 = .ok (.aload_n 0, 1) := by decide +kernel
theorem d_Br_passOnTo_71 : decode b_Br_passOnTo 71 = .ok (.new 144, 3) := by decide +kernel
theorem d_Br_passOnTo_74 : decode b_Br_passOnTo 74 = .ok (.dup, 1) := by decide +kernel
theorem d_Br_passOnTo_75 : decode b_Br_passOnTo 75 = .ok (.aload_n 0, 1) := by decide +kernel
theorem d_Br_passOnTo_76 : decode b_Br_passOnTo 76 = .ok (.getfield 35, 3) := by decide +kernel
theorem d_Br_passOnTo_79 : decode b_Br_passOnTo 79 = .ok (.iconst 2, 1) := by decide +kernel
theorem d_Br_passOnTo_80 : decode b_Br_passOnTo 80 = .ok (.aload_n 3, 1) := by decide +kernel
theorem d_Br_passOnTo_81 : decode b_Br_passOnTo 81 = .ok (.getfield 116, 3) := by decide +kernel
theorem d_Br_passOnTo_84 : decode b_Br_passOnTo 84 = .ok (.aload_n 1, 1) := by decide +kernel
theorem d_Br_passOnTo_85 : decode b_Br_passOnTo 85 = .ok (.getfield 197, 3) := by decide +kernel
theorem d_Br_passOnTo_88 : decode b_Br_passOnTo 88 = .ok (.invokespecial 277, 3) := by decide +kernel
theorem d_Br_passOnTo_91 : decode b_Br_passOnTo 91 = .ok (.invokevirtual 258, 3) := by decide +kernel
theorem d_Br_passOnTo_94 : decode b_Br_passOnTo 94 = .ok (.return_, 1) := by decide +kernel
abbrev b_Br_giverTo : ByteArray := prog_1_method_32_code
abbrev n_Br_giverTo : MethodName := ⟨"BeltRows", "giverTo", "(LBeltRows$Belt;)LBeltRows$Belt;"⟩
theorem d_Br_giverTo_0 : decode b_Br_giverTo 0 = .ok (.aconst_null, 1) := by decide +kernel
theorem d_Br_giverTo_1 : decode b_Br_giverTo 1 = .ok (.astore_n 2, 1) := by decide +kernel
theorem d_Br_giverTo_2 : decode b_Br_giverTo 2 = .ok (.aconst_null, 1) := by decide +kernel
theorem d_Br_giverTo_3 : decode b_Br_giverTo 3 = .ok (.astore_n 3, 1) := by decide +kernel
theorem d_Br_giverTo_4 : decode b_Br_giverTo 4 = .ok (.iconst 0, 1) := by decide +kernel
theorem d_Br_giverTo_5 : decode b_Br_giverTo 5 = .ok (.istore 4, 2) := by decide +kernel
theorem d_Br_giverTo_7 : decode b_Br_giverTo 7 = .ok (.iload 4, 2) := by decide +kernel
theorem d_Br_giverTo_9 : decode b_Br_giverTo 9 = .ok (.aload_n 1, 1) := by decide +kernel
theorem d_Br_giverTo_10 : decode b_Br_giverTo 10 = .ok (.getfield 197, 3) := by decide +kernel
theorem d_Br_giverTo_13 : decode b_Br_giverTo 13 = .ok (.if_icmp .ge 75, 3) := by decide +kernel
theorem d_Br_giverTo_16 : decode b_Br_giverTo 16 = .ok (.iload 4, 2) := by decide +kernel
theorem d_Br_giverTo_18 : decode b_Br_giverTo 18 = .ok (.aload_n 0, 1) := by decide +kernel
theorem d_Br_giverTo_19 : decode b_Br_giverTo 19 = .ok (.getfield 10, 3) := by decide +kernel
theorem d_Br_giverTo_22 : decode b_Br_giverTo 22 = .ok (.invokevirtual 45, 3) := by decide +kernel
theorem d_Br_giverTo_25 : decode b_Br_giverTo 25 = .ok (.if_icmp .ge 63, 3) := by decide +kernel
theorem d_Br_giverTo_28 : decode b_Br_giverTo 28 = .ok (.aload_n 0, 1) := by decide +kernel
theorem d_Br_giverTo_29 : decode b_Br_giverTo 29 = .ok (.getfield 10, 3) := by decide +kernel
theorem d_Br_giverTo_32 : decode b_Br_giverTo 32 = .ok (.iload 4, 2) := by decide +kernel
theorem d_Br_giverTo_34 : decode b_Br_giverTo 34 = .ok (.invokevirtual 140, 3) := by decide +kernel
theorem d_Br_giverTo_37 : decode b_Br_giverTo 37 = .ok (.checkcast 56, 3) := by decide +kernel
theorem d_Br_giverTo_40 : decode b_Br_giverTo 40 = .ok (.astore 5, 2) := by decide +kernel
theorem d_Br_giverTo_42 : decode b_Br_giverTo 42 = .ok (.aload 5, 2) := by decide +kernel
theorem d_Br_giverTo_44 : decode b_Br_giverTo 44 = .ok (.invokevirtual 287, 3) := by decide +kernel
theorem d_Br_giverTo_47 : decode b_Br_giverTo 47 = .ok (.astore 6, 2) := by decide +kernel
theorem d_Br_giverTo_49 : decode b_Br_giverTo 49 = .ok (.aload 6, 2) := by decide +kernel
theorem d_Br_giverTo_51 : decode b_Br_giverTo 51 = .ok (.ifnull 31, 3) := by decide +kernel
theorem d_Br_giverTo_54 : decode b_Br_giverTo 54 = .ok (.aload 6, 2) := by decide +kernel
theorem d_Br_giverTo_56 : decode b_Br_giverTo 56 = .ok (.getfield 233, 3) := by decide +kernel
theorem d_Br_giverTo_59 : decode b_Br_giverTo 59 = .ok (.aload_n 1, 1) := by decide +kernel
theorem d_Br_giverTo_60 : decode b_Br_giverTo 60 = .ok (.if_acmp .ne 22, 3) := by decide +kernel
theorem d_Br_giverTo_63 : decode b_Br_giverTo 63 = .ok (.aload_n 3, 1) := by decide +kernel
theorem d_Br_giverTo_64 : decode b_Br_giverTo 64 = .ok (.ifnull 12, 3) := by decide +kernel
theorem d_Br_giverTo_67 : decode b_Br_giverTo 67 = .ok (.aload 6, 2) := by decide +kernel
theorem d_Br_giverTo_69 : decode b_Br_giverTo 69 = .ok (.aload_n 3, 1) := by decide +kernel
theorem d_Br_giverTo_70 : decode b_Br_giverTo 70 = .ok (.invokevirtual 291, 3) := by decide +kernel
theorem d_Br_giverTo_73 : decode b_Br_giverTo 73 = .ok (.ifCond .eq 9, 3) := by decide +kernel
theorem d_Br_giverTo_76 : decode b_Br_giverTo 76 = .ok (.aload 5, 2) := by decide +kernel
theorem d_Br_giverTo_78 : decode b_Br_giverTo 78 = .ok (.astore_n 2, 1) := by decide +kernel
theorem d_Br_giverTo_79 : decode b_Br_giverTo 79 = .ok (.aload 6, 2) := by decide +kernel
theorem d_Br_giverTo_81 : decode b_Br_giverTo 81 = .ok (.astore_n 3, 1) := by decide +kernel
theorem d_Br_giverTo_82 : decode b_Br_giverTo 82 = .ok (.iinc 4 1, 3) := by decide +kernel
theorem d_Br_giverTo_85 : decode b_Br_giverTo 85 = .ok (.goto (-78), 3) := by decide +kernel
theorem d_Br_giverTo_88 : decode b_Br_giverTo 88 = .ok (.aload_n 2, 1) := by decide +kernel
theorem d_Br_giverTo_89 : decode b_Br_giverTo 89 = .ok (.areturn, 1) := by decide +kernel
abbrev b_Br_moveItems : ByteArray := prog_1_method_33_code
abbrev n_Br_moveItems : MethodName := ⟨"BeltRows", "moveItems", "(LBeltRows$Belt;)V"⟩
theorem d_Br_moveItems_0 : decode b_Br_moveItems 0 = .ok (.aload_n 1, 1) := by decide +kernel
theorem d_Br_moveItems_1 : decode b_Br_moveItems 1 = .ok (.getfield 185, 3) := by decide +kernel
theorem d_Br_moveItems_4 : decode b_Br_moveItems 4 = .ok (.astore_n 2, 1) := by decide +kernel
theorem d_Br_moveItems_5 : decode b_Br_moveItems 5 = .ok (.aload_n 2, 1) := by decide +kernel
theorem d_Br_moveItems_6 : decode b_Br_moveItems 6 = .ok (.ifnull 32, 3) := by decide +kernel
theorem d_Br_moveItems_9 : decode b_Br_moveItems 9 = .ok (.aload_n 2, 1) := by decide +kernel
theorem d_Br_moveItems_10 : decode b_Br_moveItems 10 = .ok (.getfield 160, 3) := by decide +kernel
theorem d_Br_moveItems_13 : decode b_Br_moveItems 13 = .ok (.istore_n 3, 1) := by decide +kernel
theorem d_Br_moveItems_14 : decode b_Br_moveItems 14 = .ok (.aload_n 2, 1) := by decide +kernel
theorem d_Br_moveItems_15 : decode b_Br_moveItems 15 = .ok (.aload_n 1, 1) := by decide +kernel
theorem d_Br_moveItems_16 : decode b_Br_moveItems 16 = .ok (.aload_n 0, 1) := by decide +kernel
theorem d_Br_moveItems_17 : decode b_Br_moveItems 17 = .ok (.getfield 31, 3) := by decide +kernel
theorem d_Br_moveItems_20 : decode b_Br_moveItems 20 = .ok (.invokevirtual 295, 3) := by decide +kernel
theorem d_Br_moveItems_23 : decode b_Br_moveItems 23 = .ok (.aload_n 0, 1) := by decide +kernel
theorem d_Br_moveItems_24 : decode b_Br_moveItems 24 = .ok (.aload_n 1, 1) := by decide +kernel
theorem d_Br_moveItems_25 : decode b_Br_moveItems 25 = .ok (.aload_n 2, 1) := by decide +kernel
theorem d_Br_moveItems_26 : decode b_Br_moveItems 26 = .ok (.iload_n 3, 1) := by decide +kernel
theorem d_Br_moveItems_27 : decode b_Br_moveItems 27 = .ok (.invokevirtual 298, 3) := by decide +kernel
theorem d_Br_moveItems_30 : decode b_Br_moveItems 30 = .ok (.aload_n 2, 1) := by decide +kernel
theorem d_Br_moveItems_31 : decode b_Br_moveItems 31 = .ok (.getfield 168, 3) := by decide +kernel
theorem d_Br_moveItems_34 : decode b_Br_moveItems 34 = .ok (.astore_n 2, 1) := by decide +kernel
theorem d_Br_moveItems_35 : decode b_Br_moveItems 35 = .ok (.goto (-30), 3) := by decide +kernel
theorem d_Br_moveItems_38 : decode b_Br_moveItems 38 = .ok (.return_, 1) := by decide +kernel
abbrev b_Br_noteReads : ByteArray := prog_1_method_34_code
abbrev n_Br_noteReads : MethodName := ⟨"BeltRows", "noteReads", "(LBeltRows$Belt;LBeltRows$Item;I)V"⟩
theorem d_Br_noteReads_0 : decode b_Br_noteReads 0 = .ok (.iconst 0, 1) := by decide +kernel
theorem d_Br_noteReads_1 : decode b_Br_noteReads 1 = .ok (.istore 4, 2) := by decide +kernel
theorem d_Br_noteReads_3 : decode b_Br_noteReads 3 = .ok (.iload 4, 2) := by decide +kernel
theorem d_Br_noteReads_5 : decode b_Br_noteReads 5 = .ok (.aload_n 0, 1) := by decide +kernel
theorem d_Br_noteReads_6 : decode b_Br_noteReads 6 = .ok (.getfield 19, 3) := by decide +kernel
theorem d_Br_noteReads_9 : decode b_Br_noteReads 9 = .ok (.invokevirtual 45, 3) := by decide +kernel
theorem d_Br_noteReads_12 : decode b_Br_noteReads 12 = .ok (.if_icmp .ge 113, 3) := by decide +kernel
theorem d_Br_noteReads_15 : decode b_Br_noteReads 15 = .ok (.aload_n 0, 1) := by decide +kernel
theorem d_Br_noteReads_16 : decode b_Br_noteReads 16 = .ok (.getfield 19, 3) := by decide +kernel
theorem d_Br_noteReads_19 : decode b_Br_noteReads 19 = .ok (.iload 4, 2) := by decide +kernel
theorem d_Br_noteReads_21 : decode b_Br_noteReads 21 = .ok (.invokevirtual 140, 3) := by decide +kernel
theorem d_Br_noteReads_24 : decode b_Br_noteReads 24 = .ok (.checkcast 99, 3) := by decide +kernel
theorem d_Br_noteReads_27 : decode b_Br_noteReads 27 = .ok (.astore 5, 2) := by decide +kernel
theorem d_Br_noteReads_29 : decode b_Br_noteReads 29 = .ok (.aload 5, 2) := by decide +kernel
theorem d_Br_noteReads_31 : decode b_Br_noteReads 31 = .ok (.getfield 302, 3) := by decide +kernel
theorem d_Br_noteReads_34 : decode b_Br_noteReads 34 = .ok (.aload_n 1, 1) := by decide +kernel
theorem d_Br_noteReads_35 : decode b_Br_noteReads 35 = .ok (.if_acmp .ne 28, 3) := by decide +kernel
theorem d_Br_noteReads_38 : decode b_Br_noteReads 38 = .ok (.iload_n 3, 1) := by decide +kernel
theorem d_Br_noteReads_39 : decode b_Br_noteReads 39 = .ok (.aload 5, 2) := by decide +kernel
theorem d_Br_noteReads_41 : decode b_Br_noteReads 41 = .ok (.getfield 303, 3) := by decide +kernel
theorem d_Br_noteReads_44 : decode b_Br_noteReads 44 = .ok (.if_icmp .ge 19, 3) := by decide +kernel
theorem d_Br_noteReads_47 : decode b_Br_noteReads 47 = .ok (.aload_n 2, 1) := by decide +kernel
theorem d_Br_noteReads_48 : decode b_Br_noteReads 48 = .ok (.getfield 160, 3) := by decide +kernel
theorem d_Br_noteReads_51 : decode b_Br_noteReads 51 = .ok (.aload 5, 2) := by decide +kernel
theorem d_Br_noteReads_53 : decode b_Br_noteReads 53 = .ok (.getfield 303, 3) := by decide +kernel
theorem d_Br_noteReads_56 : decode b_Br_noteReads 56 = .ok (.if_icmp .lt 7, 3) := by decide +kernel
theorem d_Br_noteReads_59 : decode b_Br_noteReads 59 = .ok (.iconst 1, 1) := by decide +kernel
theorem d_Br_noteReads_60 : decode b_Br_noteReads 60 = .ok (.goto 4, 3) := by decide +kernel
theorem d_Br_noteReads_63 : decode b_Br_noteReads 63 = .ok (.iconst 0, 1) := by decide +kernel
theorem d_Br_noteReads_64 : decode b_Br_noteReads 64 = .ok (.istore 6, 2) := by decide +kernel
theorem d_Br_noteReads_66 : decode b_Br_noteReads 66 = .ok (.iload 6, 2) := by decide +kernel
theorem d_Br_noteReads_68 : decode b_Br_noteReads 68 = .ok (.ifCond .eq 51, 3) := by decide +kernel
theorem d_Br_noteReads_71 : decode b_Br_noteReads 71 = .ok (.aload_n 0, 1) := by decide +kernel
theorem d_Br_noteReads_72 : decode b_Br_noteReads 72 = .ok (.getfield 25, 3) := by decide +kernel
theorem d_Br_noteReads_75 : decode b_Br_noteReads 75 = .ok (.invokevirtual 45, 3) := by decide +kernel
theorem d_Br_noteReads_78 : decode b_Br_noteReads 78 = .ok (.sipush 4096, 3) := by decide +kernel
theorem d_Br_noteReads_81 : decode b_Br_noteReads 81 = .ok (.if_icmp .ge 38, 3) := by decide +kernel
theorem d_Br_noteReads_84 : decode b_Br_noteReads 84 = .ok (.aload_n 0, 1) := by decide +kernel
theorem d_Br_noteReads_85 : decode b_Br_noteReads 85 = .ok (.getfield 25, 3) := by decide +kernel
theorem d_Br_noteReads_88 : decode b_Br_noteReads 88 = .ok (.new 144, 3) := by decide +kernel
theorem d_Br_noteReads_91 : decode b_Br_noteReads 91 = .ok (.dup, 1) := by decide +kernel
theorem d_Br_noteReads_92 : decode b_Br_noteReads 92 = .ok (.aload_n 0, 1) := by decide +kernel
theorem d_Br_noteReads_93 : decode b_Br_noteReads 93 = .ok (.getfield 35, 3) := by decide +kernel
theorem d_Br_noteReads_96 : decode b_Br_noteReads 96 = .ok (.aload 5, 2) := by decide +kernel
theorem d_Br_noteReads_98 : decode b_Br_noteReads 98 = .ok (.getfield 304, 3) := by decide +kernel
theorem d_Br_noteReads_101 : decode b_Br_noteReads 101 = .ok (.iadd, 1) := by decide +kernel
theorem d_Br_noteReads_102 : decode b_Br_noteReads 102 = .ok (.iconst 0, 1) := by decide +kernel
theorem d_Br_noteReads_103 : decode b_Br_noteReads 103 = .ok (.aload_n 2, 1) := by decide +kernel
theorem d_Br_noteReads_104 : decode b_Br_noteReads 104 = .ok (.getfield 116, 3) := by decide +kernel
theorem d_Br_noteReads_107 : decode b_Br_noteReads 107 = .ok (.aload 5, 2) := by decide +kernel
theorem d_Br_noteReads_109 : decode b_Br_noteReads 109 = .ok (.getfield 307, 3) := by decide +kernel
theorem d_Br_noteReads_112 : decode b_Br_noteReads 112 = .ok (.invokespecial 277, 3) := by decide +kernel
theorem d_Br_noteReads_115 : decode b_Br_noteReads 115 = .ok (.invokevirtual 60, 3) := by decide +kernel
theorem d_Br_noteReads_118 : decode b_Br_noteReads 118 = .ok (.pop, 1) := by decide +kernel
theorem d_Br_noteReads_119 : decode b_Br_noteReads 119 = .ok (.iinc 4 1, 3) := by decide +kernel
theorem d_Br_noteReads_122 : decode b_Br_noteReads 122 = .ok (.goto (-119), 3) := by decide +kernel
theorem d_Br_noteReads_125 : decode b_Br_noteReads 125 = .ok (.return_, 1) := by decide +kernel
abbrev b_Br_edge : ByteArray := prog_1_method_10_code
abbrev n_Br_edge : MethodName := ⟨"BeltRows", "edge", "(II)I"⟩
theorem d_Br_edge_0 : decode b_Br_edge 0 = .ok (.iload_n 1, 1) := by decide +kernel
theorem d_Br_edge_1 : decode b_Br_edge 1 = .ok (.ifCond .lt 14, 3) := by decide +kernel
theorem d_Br_edge_4 : decode b_Br_edge 4 = .ok (.iload_n 1, 1) := by decide +kernel
theorem d_Br_edge_5 : decode b_Br_edge 5 = .ok (.aload_n 0, 1) := by decide +kernel
theorem d_Br_edge_6 : decode b_Br_edge 6 = .ok (.getfield 22, 3) := by decide +kernel
theorem d_Br_edge_9 : decode b_Br_edge 9 = .ok (.invokevirtual 45, 3) := by decide +kernel
theorem d_Br_edge_12 : decode b_Br_edge 12 = .ok (.if_icmp .lt 13, 3) := by decide +kernel
theorem d_Br_edge_15 : decode b_Br_edge 15 = .ok (.new 135, 3) := by decide +kernel
theorem d_Br_edge_18 : decode b_Br_edge 18 = .ok (.dup, 1) := by decide +kernel
theorem d_Br_edge_19 : decode b_Br_edge 19 = .ok (.ldc 137, 2) := by decide +kernel
theorem d_Br_edge_21 : decode b_Br_edge 21 = .ok (.invokespecial 139, 3) := by decide +kernel
theorem d_Br_edge_24 : decode b_Br_edge 24 = .ok (.athrow, 1) := by decide +kernel
theorem d_Br_edge_25 : decode b_Br_edge 25 = .ok (.aload_n 0, 1) := by decide +kernel
theorem d_Br_edge_26 : decode b_Br_edge 26 = .ok (.getfield 22, 3) := by decide +kernel
theorem d_Br_edge_29 : decode b_Br_edge 29 = .ok (.iload_n 1, 1) := by decide +kernel
theorem d_Br_edge_30 : decode b_Br_edge 30 = .ok (.invokevirtual 140, 3) := by decide +kernel
theorem d_Br_edge_33 : decode b_Br_edge 33 = .ok (.checkcast 144, 3) := by decide +kernel
theorem d_Br_edge_36 : decode b_Br_edge 36 = .ok (.astore_n 3, 1) := by decide +kernel
theorem d_Br_edge_37 : decode b_Br_edge 37 = .ok (.iload_n 2, 1) := by decide +kernel
theorem d_Br_edge_38 : decode b_Br_edge 38 = .ok (.tableswitch 50 0 3 #[30, 35, 40, 45], 30) := by decide +kernel
theorem d_Br_edge_68 : decode b_Br_edge 68 = .ok (.aload_n 3, 1) := by decide +kernel
theorem d_Br_edge_69 : decode b_Br_edge 69 = .ok (.getfield 146, 3) := by decide +kernel
theorem d_Br_edge_72 : decode b_Br_edge 72 = .ok (.ireturn, 1) := by decide +kernel
theorem d_Br_edge_73 : decode b_Br_edge 73 = .ok (.aload_n 3, 1) := by decide +kernel
theorem d_Br_edge_74 : decode b_Br_edge 74 = .ok (.getfield 149, 3) := by decide +kernel
theorem d_Br_edge_77 : decode b_Br_edge 77 = .ok (.ireturn, 1) := by decide +kernel
theorem d_Br_edge_78 : decode b_Br_edge 78 = .ok (.aload_n 3, 1) := by decide +kernel
theorem d_Br_edge_79 : decode b_Br_edge 79 = .ok (.getfield 152, 3) := by decide +kernel
theorem d_Br_edge_82 : decode b_Br_edge 82 = .ok (.ireturn, 1) := by decide +kernel
theorem d_Br_edge_83 : decode b_Br_edge 83 = .ok (.aload_n 3, 1) := by decide +kernel
theorem d_Br_edge_84 : decode b_Br_edge 84 = .ok (.getfield 155, 3) := by decide +kernel
theorem d_Br_edge_87 : decode b_Br_edge 87 = .ok (.ireturn, 1) := by decide +kernel
theorem d_Br_edge_88 : decode b_Br_edge 88 = .ok (.new 68, 3) := by decide +kernel
theorem d_Br_edge_91 : decode b_Br_edge 91 = .ok (.dup, 1) := by decide +kernel
theorem d_Br_edge_92 : decode b_Br_edge 92 = .ok (.ldc 158, 2) := by decide +kernel
theorem d_Br_edge_94 : decode b_Br_edge 94 = .ok (.invokespecial 72, 3) := by decide +kernel
theorem d_Br_edge_97 : decode b_Br_edge 97 = .ok (.athrow, 1) := by decide +kernel
abbrev b_Br_slip : ByteArray := prog_1_method_11_code
abbrev n_Br_slip : MethodName := ⟨"BeltRows", "slip", "(II)I"⟩
theorem d_Br_slip_0 : decode b_Br_slip 0 = .ok (.aload_n 0, 1) := by decide +kernel
theorem d_Br_slip_1 : decode b_Br_slip 1 = .ok (.iload_n 1, 1) := by decide +kernel
theorem d_Br_slip_2 : decode b_Br_slip 2 = .ok (.invokevirtual 119, 3) := by decide +kernel
theorem d_Br_slip_5 : decode b_Br_slip 5 = .ok (.astore_n 3, 1) := by decide +kernel
theorem d_Br_slip_6 : decode b_Br_slip 6 = .ok (.iload_n 2, 1) := by decide +kernel
theorem d_Br_slip_7 : decode b_Br_slip 7 = .ok (.iconst 1, 1) := by decide +kernel
theorem d_Br_slip_8 : decode b_Br_slip 8 = .ok (.sipush 1000, 3) := by decide +kernel
theorem d_Br_slip_11 : decode b_Br_slip 11 = .ok (.invokestatic 41, 3) := by decide +kernel
theorem d_Br_slip_14 : decode b_Br_slip 14 = .ok (.aload_n 3, 1) := by decide +kernel
theorem d_Br_slip_15 : decode b_Br_slip 15 = .ok (.invokestatic 123, 3) := by decide +kernel
theorem d_Br_slip_18 : decode b_Br_slip 18 = .ok (.aload_n 3, 1) := by decide +kernel
theorem d_Br_slip_19 : decode b_Br_slip 19 = .ok (.getfield 160, 3) := by decide +kernel
theorem d_Br_slip_22 : decode b_Br_slip 22 = .ok (.iload_n 2, 1) := by decide +kernel
theorem d_Br_slip_23 : decode b_Br_slip 23 = .ok (.if_icmp .ge 13, 3) := by decide +kernel
theorem d_Br_slip_26 : decode b_Br_slip 26 = .ok (.new 163, 3) := by decide +kernel
theorem d_Br_slip_29 : decode b_Br_slip 29 = .ok (.dup, 1) := by decide +kernel
theorem d_Br_slip_30 : decode b_Br_slip 30 = .ok (.ldc 165, 2) := by decide +kernel
theorem d_Br_slip_32 : decode b_Br_slip 32 = .ok (.invokespecial 167, 3) := by decide +kernel
theorem d_Br_slip_35 : decode b_Br_slip 35 = .ok (.athrow, 1) := by decide +kernel
theorem d_Br_slip_36 : decode b_Br_slip 36 = .ok (.aload_n 3, 1) := by decide +kernel
theorem d_Br_slip_37 : decode b_Br_slip 37 = .ok (.getfield 168, 3) := by decide +kernel
theorem d_Br_slip_40 : decode b_Br_slip 40 = .ok (.astore 4, 2) := by decide +kernel
theorem d_Br_slip_42 : decode b_Br_slip 42 = .ok (.aload 4, 2) := by decide +kernel
theorem d_Br_slip_44 : decode b_Br_slip 44 = .ok (.ifnull 32, 3) := by decide +kernel
theorem d_Br_slip_47 : decode b_Br_slip 47 = .ok (.aload_n 3, 1) := by decide +kernel
theorem d_Br_slip_48 : decode b_Br_slip 48 = .ok (.invokevirtual 172, 3) := by decide +kernel
theorem d_Br_slip_51 : decode b_Br_slip 51 = .ok (.iload_n 2, 1) := by decide +kernel
theorem d_Br_slip_52 : decode b_Br_slip 52 = .ok (.isub, 1) := by decide +kernel
theorem d_Br_slip_53 : decode b_Br_slip 53 = .ok (.aload 4, 2) := by decide +kernel
theorem d_Br_slip_55 : decode b_Br_slip 55 = .ok (.getfield 160, 3) := by decide +kernel
theorem d_Br_slip_58 : decode b_Br_slip 58 = .ok (.isub, 1) := by decide +kernel
theorem d_Br_slip_59 : decode b_Br_slip 59 = .ok (.aload_n 0, 1) := by decide +kernel
theorem d_Br_slip_60 : decode b_Br_slip 60 = .ok (.getfield 31, 3) := by decide +kernel
theorem d_Br_slip_63 : decode b_Br_slip 63 = .ok (.if_icmp .ge 13, 3) := by decide +kernel
theorem d_Br_slip_66 : decode b_Br_slip 66 = .ok (.new 163, 3) := by decide +kernel
theorem d_Br_slip_69 : decode b_Br_slip 69 = .ok (.dup, 1) := by decide +kernel
theorem d_Br_slip_70 : decode b_Br_slip 70 = .ok (.ldc 175, 2) := by decide +kernel
theorem d_Br_slip_72 : decode b_Br_slip 72 = .ok (.invokespecial 167, 3) := by decide +kernel
theorem d_Br_slip_75 : decode b_Br_slip 75 = .ok (.athrow, 1) := by decide +kernel
theorem d_Br_slip_76 : decode b_Br_slip 76 = .ok (.aload_n 3, 1) := by decide +kernel
theorem d_Br_slip_77 : decode b_Br_slip 77 = .ok (.dup, 1) := by decide +kernel
theorem d_Br_slip_78 : decode b_Br_slip 78 = .ok (.getfield 160, 3) := by decide +kernel
theorem d_Br_slip_81 : decode b_Br_slip 81 = .ok (.iload_n 2, 1) := by decide +kernel
theorem d_Br_slip_82 : decode b_Br_slip 82 = .ok (.isub, 1) := by decide +kernel
theorem d_Br_slip_83 : decode b_Br_slip 83 = .ok (.putfield 160, 3) := by decide +kernel
theorem d_Br_slip_86 : decode b_Br_slip 86 = .ok (.aload_n 3, 1) := by decide +kernel
theorem d_Br_slip_87 : decode b_Br_slip 87 = .ok (.getfield 160, 3) := by decide +kernel
theorem d_Br_slip_90 : decode b_Br_slip 90 = .ok (.ireturn, 1) := by decide +kernel
abbrev b_Br_take : ByteArray := prog_1_method_12_code
abbrev n_Br_take : MethodName := ⟨"BeltRows", "take", "(I)V"⟩
theorem d_Br_take_0 : decode b_Br_take 0 = .ok (.aload_n 0, 1) := by decide +kernel
theorem d_Br_take_1 : decode b_Br_take 1 = .ok (.iload_n 1, 1) := by decide +kernel
theorem d_Br_take_2 : decode b_Br_take 2 = .ok (.invokevirtual 119, 3) := by decide +kernel
theorem d_Br_take_5 : decode b_Br_take 5 = .ok (.astore_n 2, 1) := by decide +kernel
theorem d_Br_take_6 : decode b_Br_take 6 = .ok (.aload_n 2, 1) := by decide +kernel
theorem d_Br_take_7 : decode b_Br_take 7 = .ok (.invokestatic 123, 3) := by decide +kernel
theorem d_Br_take_10 : decode b_Br_take 10 = .ok (.aload_n 2, 1) := by decide +kernel
theorem d_Br_take_11 : decode b_Br_take 11 = .ok (.iconst 2, 1) := by decide +kernel
theorem d_Br_take_12 : decode b_Br_take 12 = .ok (.invokevirtual 177, 3) := by decide +kernel
theorem d_Br_take_15 : decode b_Br_take 15 = .ok (.return_, 1) := by decide +kernel
abbrev b_Br_clean : ByteArray := prog_1_method_13_code
abbrev n_Br_clean : MethodName := ⟨"BeltRows", "clean", "(I)I"⟩
theorem d_Br_clean_0 : decode b_Br_clean 0 = .ok (.aload_n 0, 1) := by decide +kernel
theorem d_Br_clean_1 : decode b_Br_clean 1 = .ok (.iload_n 1, 1) := by decide +kernel
theorem d_Br_clean_2 : decode b_Br_clean 2 = .ok (.invokevirtual 64, 3) := by decide +kernel
theorem d_Br_clean_5 : decode b_Br_clean 5 = .ok (.astore_n 2, 1) := by decide +kernel
theorem d_Br_clean_6 : decode b_Br_clean 6 = .ok (.aload_n 2, 1) := by decide +kernel
theorem d_Br_clean_7 : decode b_Br_clean 7 = .ok (.getfield 90, 3) := by decide +kernel
theorem d_Br_clean_10 : decode b_Br_clean 10 = .ok (.ifCond .eq 13, 3) := by decide +kernel
theorem d_Br_clean_13 : decode b_Br_clean 13 = .ok (.new 163, 3) := by decide +kernel
theorem d_Br_clean_16 : decode b_Br_clean 16 = .ok (.dup, 1) := by decide +kernel
theorem d_Br_clean_17 : decode b_Br_clean 17 = .ok (.ldc 181, 2) := by decide +kernel
theorem d_Br_clean_19 : decode b_Br_clean 19 = .ok (.invokespecial 167, 3) := by decide +kernel
theorem d_Br_clean_22 : decode b_Br_clean 22 = .ok (.athrow, 1) := by decide +kernel
theorem d_Br_clean_23 : decode b_Br_clean 23 = .ok (.aload_n 2, 1) := by decide +kernel
theorem d_Br_clean_24 : decode b_Br_clean 24 = .ok (.getfield 183, 3) := by decide +kernel
theorem d_Br_clean_27 : decode b_Br_clean 27 = .ok (.istore_n 3, 1) := by decide +kernel
theorem d_Br_clean_28 : decode b_Br_clean 28 = .ok (.iconst 0, 1) := by decide +kernel
theorem d_Br_clean_29 : decode b_Br_clean 29 = .ok (.istore 4, 2) := by decide +kernel
theorem d_Br_clean_31 : decode b_Br_clean 31 = .ok (.iload 4, 2) := by decide +kernel
theorem d_Br_clean_33 : decode b_Br_clean 33 = .ok (.iload_n 3, 1) := by decide +kernel
theorem d_Br_clean_34 : decode b_Br_clean 34 = .ok (.if_icmp .ge 24, 3) := by decide +kernel
theorem d_Br_clean_37 : decode b_Br_clean 37 = .ok (.aload_n 2, 1) := by decide +kernel
theorem d_Br_clean_38 : decode b_Br_clean 38 = .ok (.getfield 185, 3) := by decide +kernel
theorem d_Br_clean_41 : decode b_Br_clean 41 = .ok (.ifnull 17, 3) := by decide +kernel
theorem d_Br_clean_44 : decode b_Br_clean 44 = .ok (.aload_n 2, 1) := by decide +kernel
theorem d_Br_clean_45 : decode b_Br_clean 45 = .ok (.getfield 185, 3) := by decide +kernel
theorem d_Br_clean_48 : decode b_Br_clean 48 = .ok (.iconst 2, 1) := by decide +kernel
theorem d_Br_clean_49 : decode b_Br_clean 49 = .ok (.invokevirtual 177, 3) := by decide +kernel
theorem d_Br_clean_52 : decode b_Br_clean 52 = .ok (.iinc 4 1, 3) := by decide +kernel
theorem d_Br_clean_55 : decode b_Br_clean 55 = .ok (.goto (-24), 3) := by decide +kernel
theorem d_Br_clean_58 : decode b_Br_clean 58 = .ok (.iload_n 3, 1) := by decide +kernel
theorem d_Br_clean_59 : decode b_Br_clean 59 = .ok (.ireturn, 1) := by decide +kernel
abbrev b_Br_gap : ByteArray := prog_1_method_14_code
abbrev n_Br_gap : MethodName := ⟨"BeltRows", "gap", "(II)I"⟩
theorem d_Br_gap_0 : decode b_Br_gap 0 = .ok (.aload_n 0, 1) := by decide +kernel
theorem d_Br_gap_1 : decode b_Br_gap 1 = .ok (.iload_n 1, 1) := by decide +kernel
theorem d_Br_gap_2 : decode b_Br_gap 2 = .ok (.invokevirtual 119, 3) := by decide +kernel
theorem d_Br_gap_5 : decode b_Br_gap 5 = .ok (.astore_n 3, 1) := by decide +kernel
theorem d_Br_gap_6 : decode b_Br_gap 6 = .ok (.aload_n 0, 1) := by decide +kernel
theorem d_Br_gap_7 : decode b_Br_gap 7 = .ok (.iload_n 2, 1) := by decide +kernel
theorem d_Br_gap_8 : decode b_Br_gap 8 = .ok (.invokevirtual 119, 3) := by decide +kernel
theorem d_Br_gap_11 : decode b_Br_gap 11 = .ok (.astore 4, 2) := by decide +kernel
theorem d_Br_gap_13 : decode b_Br_gap 13 = .ok (.aload_n 3, 1) := by decide +kernel
theorem d_Br_gap_14 : decode b_Br_gap 14 = .ok (.invokestatic 123, 3) := by decide +kernel
theorem d_Br_gap_17 : decode b_Br_gap 17 = .ok (.aload 4, 2) := by decide +kernel
theorem d_Br_gap_19 : decode b_Br_gap 19 = .ok (.invokestatic 123, 3) := by decide +kernel
theorem d_Br_gap_22 : decode b_Br_gap 22 = .ok (.aload_n 3, 1) := by decide +kernel
theorem d_Br_gap_23 : decode b_Br_gap 23 = .ok (.getfield 188, 3) := by decide +kernel
theorem d_Br_gap_26 : decode b_Br_gap 26 = .ok (.aload 4, 2) := by decide +kernel
theorem d_Br_gap_28 : decode b_Br_gap 28 = .ok (.getfield 188, 3) := by decide +kernel
theorem d_Br_gap_31 : decode b_Br_gap 31 = .ok (.if_acmp .ne 9, 3) := by decide +kernel
theorem d_Br_gap_34 : decode b_Br_gap 34 = .ok (.aload_n 3, 1) := by decide +kernel
theorem d_Br_gap_35 : decode b_Br_gap 35 = .ok (.aload 4, 2) := by decide +kernel
theorem d_Br_gap_37 : decode b_Br_gap 37 = .ok (.if_acmp .ne 13, 3) := by decide +kernel
theorem d_Br_gap_40 : decode b_Br_gap 40 = .ok (.new 163, 3) := by decide +kernel
theorem d_Br_gap_43 : decode b_Br_gap 43 = .ok (.dup, 1) := by decide +kernel
theorem d_Br_gap_44 : decode b_Br_gap 44 = .ok (.ldc 192, 2) := by decide +kernel
theorem d_Br_gap_46 : decode b_Br_gap 46 = .ok (.invokespecial 167, 3) := by decide +kernel
theorem d_Br_gap_49 : decode b_Br_gap 49 = .ok (.athrow, 1) := by decide +kernel
theorem d_Br_gap_50 : decode b_Br_gap 50 = .ok (.aload_n 3, 1) := by decide +kernel
theorem d_Br_gap_51 : decode b_Br_gap 51 = .ok (.getfield 160, 3) := by decide +kernel
theorem d_Br_gap_54 : decode b_Br_gap 54 = .ok (.aload 4, 2) := by decide +kernel
theorem d_Br_gap_56 : decode b_Br_gap 56 = .ok (.getfield 160, 3) := by decide +kernel
theorem d_Br_gap_59 : decode b_Br_gap 59 = .ok (.if_icmp .le 16, 3) := by decide +kernel
theorem d_Br_gap_62 : decode b_Br_gap 62 = .ok (.aload_n 3, 1) := by decide +kernel
theorem d_Br_gap_63 : decode b_Br_gap 63 = .ok (.invokevirtual 172, 3) := by decide +kernel
theorem d_Br_gap_66 : decode b_Br_gap 66 = .ok (.aload 4, 2) := by decide +kernel
theorem d_Br_gap_68 : decode b_Br_gap 68 = .ok (.getfield 160, 3) := by decide +kernel
theorem d_Br_gap_71 : decode b_Br_gap 71 = .ok (.isub, 1) := by decide +kernel
theorem d_Br_gap_72 : decode b_Br_gap 72 = .ok (.goto 13, 3) := by decide +kernel
theorem d_Br_gap_75 : decode b_Br_gap 75 = .ok (.aload 4, 2) := by decide +kernel
theorem d_Br_gap_77 : decode b_Br_gap 77 = .ok (.invokevirtual 172, 3) := by decide +kernel
theorem d_Br_gap_80 : decode b_Br_gap 80 = .ok (.aload_n 3, 1) := by decide +kernel
theorem d_Br_gap_81 : decode b_Br_gap 81 = .ok (.getfield 160, 3) := by decide +kernel
theorem d_Br_gap_84 : decode b_Br_gap 84 = .ok (.isub, 1) := by decide +kernel
theorem d_Br_gap_85 : decode b_Br_gap 85 = .ok (.ireturn, 1) := by decide +kernel
abbrev b_Br_told : ByteArray := prog_1_method_15_code
abbrev n_Br_told : MethodName := ⟨"BeltRows", "told", "(II)I"⟩
theorem d_Br_told_0 : decode b_Br_told 0 = .ok (.aload_n 0, 1) := by decide +kernel
theorem d_Br_told_1 : decode b_Br_told 1 = .ok (.iload_n 1, 1) := by decide +kernel
theorem d_Br_told_2 : decode b_Br_told 2 = .ok (.invokevirtual 119, 3) := by decide +kernel
theorem d_Br_told_5 : decode b_Br_told 5 = .ok (.astore_n 3, 1) := by decide +kernel
theorem d_Br_told_6 : decode b_Br_told 6 = .ok (.aload_n 3, 1) := by decide +kernel
theorem d_Br_told_7 : decode b_Br_told 7 = .ok (.getfield 194, 3) := by decide +kernel
theorem d_Br_told_10 : decode b_Br_told 10 = .ok (.ifCond .ne 7, 3) := by decide +kernel
theorem d_Br_told_13 : decode b_Br_told 13 = .ok (.iconst 1, 1) := by decide +kernel
theorem d_Br_told_14 : decode b_Br_told 14 = .ok (.goto 4, 3) := by decide +kernel
theorem d_Br_told_17 : decode b_Br_told 17 = .ok (.iconst 0, 1) := by decide +kernel
theorem d_Br_told_18 : decode b_Br_told 18 = .ok (.istore 4, 2) := by decide +kernel
theorem d_Br_told_20 : decode b_Br_told 20 = .ok (.iload_n 2, 1) := by decide +kernel
theorem d_Br_told_21 : decode b_Br_told 21 = .ok (.tableswitch 110 0 6 #[43, 48, 67, 81, 86, 91, 105], 43) := by decide +kernel
theorem d_Br_told_64 : decode b_Br_told 64 = .ok (.aload_n 3, 1) := by decide +kernel
theorem d_Br_told_65 : decode b_Br_told 65 = .ok (.getfield 194, 3) := by decide +kernel
theorem d_Br_told_68 : decode b_Br_told 68 = .ok (.ireturn, 1) := by decide +kernel
theorem d_Br_told_69 : decode b_Br_told 69 = .ok (.aload_n 3, 1) := by decide +kernel
theorem d_Br_told_70 : decode b_Br_told 70 = .ok (.getfield 188, 3) := by decide +kernel
theorem d_Br_told_73 : decode b_Br_told 73 = .ok (.ifnonnull 7, 3) := by decide +kernel
theorem d_Br_told_76 : decode b_Br_told 76 = .ok (.iconst (-1), 1) := by decide +kernel
theorem d_Br_told_77 : decode b_Br_told 77 = .ok (.goto 10, 3) := by decide +kernel
theorem d_Br_told_80 : decode b_Br_told 80 = .ok (.aload_n 3, 1) := by decide +kernel
theorem d_Br_told_81 : decode b_Br_told 81 = .ok (.getfield 188, 3) := by decide +kernel
theorem d_Br_told_84 : decode b_Br_told 84 = .ok (.getfield 197, 3) := by decide +kernel
theorem d_Br_told_87 : decode b_Br_told 87 = .ok (.ireturn, 1) := by decide +kernel
theorem d_Br_told_88 : decode b_Br_told 88 = .ok (.iload 4, 2) := by decide +kernel
theorem d_Br_told_90 : decode b_Br_told 90 = .ok (.ifCond .eq 10, 3) := by decide +kernel
theorem d_Br_told_93 : decode b_Br_told 93 = .ok (.aload_n 3, 1) := by decide +kernel
theorem d_Br_told_94 : decode b_Br_told 94 = .ok (.getfield 160, 3) := by decide +kernel
theorem d_Br_told_97 : decode b_Br_told 97 = .ok (.goto 4, 3) := by decide +kernel
theorem d_Br_told_100 : decode b_Br_told 100 = .ok (.iconst (-1), 1) := by decide +kernel
theorem d_Br_told_101 : decode b_Br_told 101 = .ok (.ireturn, 1) := by decide +kernel
theorem d_Br_told_102 : decode b_Br_told 102 = .ok (.aload_n 3, 1) := by decide +kernel
theorem d_Br_told_103 : decode b_Br_told 103 = .ok (.getfield 198, 3) := by decide +kernel
theorem d_Br_told_106 : decode b_Br_told 106 = .ok (.ireturn, 1) := by decide +kernel
theorem d_Br_told_107 : decode b_Br_told 107 = .ok (.aload_n 3, 1) := by decide +kernel
theorem d_Br_told_108 : decode b_Br_told 108 = .ok (.getfield 129, 3) := by decide +kernel
theorem d_Br_told_111 : decode b_Br_told 111 = .ok (.ireturn, 1) := by decide +kernel
theorem d_Br_told_112 : decode b_Br_told 112 = .ok (.iload 4, 2) := by decide +kernel
theorem d_Br_told_114 : decode b_Br_told 114 = .ok (.ifCond .eq 10, 3) := by decide +kernel
theorem d_Br_told_117 : decode b_Br_told 117 = .ok (.aload_n 3, 1) := by decide +kernel
theorem d_Br_told_118 : decode b_Br_told 118 = .ok (.getfield 199, 3) := by decide +kernel
theorem d_Br_told_121 : decode b_Br_told 121 = .ok (.goto 4, 3) := by decide +kernel
theorem d_Br_told_124 : decode b_Br_told 124 = .ok (.iconst (-1), 1) := by decide +kernel
theorem d_Br_told_125 : decode b_Br_told 125 = .ok (.ireturn, 1) := by decide +kernel
theorem d_Br_told_126 : decode b_Br_told 126 = .ok (.aload_n 3, 1) := by decide +kernel
theorem d_Br_told_127 : decode b_Br_told 127 = .ok (.getfield 202, 3) := by decide +kernel
theorem d_Br_told_130 : decode b_Br_told 130 = .ok (.ireturn, 1) := by decide +kernel
theorem d_Br_told_131 : decode b_Br_told 131 = .ok (.new 68, 3) := by decide +kernel
theorem d_Br_told_134 : decode b_Br_told 134 = .ok (.dup, 1) := by decide +kernel
theorem d_Br_told_135 : decode b_Br_told 135 = .ok (.ldc 205, 2) := by decide +kernel
theorem d_Br_told_137 : decode b_Br_told 137 = .ok (.invokespecial 72, 3) := by decide +kernel
theorem d_Br_told_140 : decode b_Br_told 140 = .ok (.athrow, 1) := by decide +kernel
abbrev b_Br_known : ByteArray := prog_1_method_16_code
abbrev n_Br_known : MethodName := ⟨"BeltRows", "known", "(II)I"⟩
theorem d_Br_known_0 : decode b_Br_known 0 = .ok (.aload_n 0, 1) := by decide +kernel
theorem d_Br_known_1 : decode b_Br_known 1 = .ok (.iload_n 1, 1) := by decide +kernel
theorem d_Br_known_2 : decode b_Br_known 2 = .ok (.invokevirtual 64, 3) := by decide +kernel
theorem d_Br_known_5 : decode b_Br_known 5 = .ok (.astore_n 3, 1) := by decide +kernel
theorem d_Br_known_6 : decode b_Br_known 6 = .ok (.iload_n 2, 1) := by decide +kernel
theorem d_Br_known_7 : decode b_Br_known 7 = .ok (.tableswitch 132 0 8 #[49, 54, 59, 72, 77, 96, 105, 114, 123], 49) := by decide +kernel
theorem d_Br_known_56 : decode b_Br_known 56 = .ok (.aload_n 3, 1) := by decide +kernel
theorem d_Br_known_57 : decode b_Br_known 57 = .ok (.getfield 94, 3) := by decide +kernel
theorem d_Br_known_60 : decode b_Br_known 60 = .ok (.ireturn, 1) := by decide +kernel
theorem d_Br_known_61 : decode b_Br_known 61 = .ok (.aload_n 3, 1) := by decide +kernel
theorem d_Br_known_62 : decode b_Br_known 62 = .ok (.getfield 87, 3) := by decide +kernel
theorem d_Br_known_65 : decode b_Br_known 65 = .ok (.ireturn, 1) := by decide +kernel
theorem d_Br_known_66 : decode b_Br_known 66 = .ok (.aload_n 3, 1) := by decide +kernel
theorem d_Br_known_67 : decode b_Br_known 67 = .ok (.getfield 90, 3) := by decide +kernel
theorem d_Br_known_70 : decode b_Br_known 70 = .ok (.ifCond .eq 7, 3) := by decide +kernel
theorem d_Br_known_73 : decode b_Br_known 73 = .ok (.iconst 1, 1) := by decide +kernel
theorem d_Br_known_74 : decode b_Br_known 74 = .ok (.goto 4, 3) := by decide +kernel
theorem d_Br_known_77 : decode b_Br_known 77 = .ok (.iconst 0, 1) := by decide +kernel
theorem d_Br_known_78 : decode b_Br_known 78 = .ok (.ireturn, 1) := by decide +kernel
theorem d_Br_known_79 : decode b_Br_known 79 = .ok (.aload_n 3, 1) := by decide +kernel
theorem d_Br_known_80 : decode b_Br_known 80 = .ok (.getfield 183, 3) := by decide +kernel
theorem d_Br_known_83 : decode b_Br_known 83 = .ok (.ireturn, 1) := by decide +kernel
theorem d_Br_known_84 : decode b_Br_known 84 = .ok (.aload_n 3, 1) := by decide +kernel
theorem d_Br_known_85 : decode b_Br_known 85 = .ok (.getfield 185, 3) := by decide +kernel
theorem d_Br_known_88 : decode b_Br_known 88 = .ok (.ifnonnull 7, 3) := by decide +kernel
theorem d_Br_known_91 : decode b_Br_known 91 = .ok (.iconst (-1), 1) := by decide +kernel
theorem d_Br_known_92 : decode b_Br_known 92 = .ok (.goto 10, 3) := by decide +kernel
theorem d_Br_known_95 : decode b_Br_known 95 = .ok (.aload_n 3, 1) := by decide +kernel
theorem d_Br_known_96 : decode b_Br_known 96 = .ok (.getfield 185, 3) := by decide +kernel
theorem d_Br_known_99 : decode b_Br_known 99 = .ok (.getfield 116, 3) := by decide +kernel
theorem d_Br_known_102 : decode b_Br_known 102 = .ok (.ireturn, 1) := by decide +kernel
theorem d_Br_known_103 : decode b_Br_known 103 = .ok (.aload_n 3, 1) := by decide +kernel
theorem d_Br_known_104 : decode b_Br_known 104 = .ok (.iconst 0, 1) := by decide +kernel
theorem d_Br_known_105 : decode b_Br_known 105 = .ok (.invokevirtual 73, 3) := by decide +kernel
theorem d_Br_known_108 : decode b_Br_known 108 = .ok (.invokevirtual 207, 3) := by decide +kernel
theorem d_Br_known_111 : decode b_Br_known 111 = .ok (.ireturn, 1) := by decide +kernel
theorem d_Br_known_112 : decode b_Br_known 112 = .ok (.aload_n 3, 1) := by decide +kernel
theorem d_Br_known_113 : decode b_Br_known 113 = .ok (.iconst 1, 1) := by decide +kernel
theorem d_Br_known_114 : decode b_Br_known 114 = .ok (.invokevirtual 73, 3) := by decide +kernel
theorem d_Br_known_117 : decode b_Br_known 117 = .ok (.invokevirtual 207, 3) := by decide +kernel
theorem d_Br_known_120 : decode b_Br_known 120 = .ok (.ireturn, 1) := by decide +kernel
theorem d_Br_known_121 : decode b_Br_known 121 = .ok (.aload_n 3, 1) := by decide +kernel
theorem d_Br_known_122 : decode b_Br_known 122 = .ok (.iconst 0, 1) := by decide +kernel
theorem d_Br_known_123 : decode b_Br_known 123 = .ok (.invokevirtual 73, 3) := by decide +kernel
theorem d_Br_known_126 : decode b_Br_known 126 = .ok (.getfield 210, 3) := by decide +kernel
theorem d_Br_known_129 : decode b_Br_known 129 = .ok (.ireturn, 1) := by decide +kernel
theorem d_Br_known_130 : decode b_Br_known 130 = .ok (.aload_n 3, 1) := by decide +kernel
theorem d_Br_known_131 : decode b_Br_known 131 = .ok (.iconst 1, 1) := by decide +kernel
theorem d_Br_known_132 : decode b_Br_known 132 = .ok (.invokevirtual 73, 3) := by decide +kernel
theorem d_Br_known_135 : decode b_Br_known 135 = .ok (.getfield 210, 3) := by decide +kernel
theorem d_Br_known_138 : decode b_Br_known 138 = .ok (.ireturn, 1) := by decide +kernel
theorem d_Br_known_139 : decode b_Br_known 139 = .ok (.new 68, 3) := by decide +kernel
theorem d_Br_known_142 : decode b_Br_known 142 = .ok (.dup, 1) := by decide +kernel
theorem d_Br_known_143 : decode b_Br_known 143 = .ok (.ldc 213, 2) := by decide +kernel
theorem d_Br_known_145 : decode b_Br_known 145 = .ok (.invokespecial 72, 3) := by decide +kernel
theorem d_Br_known_148 : decode b_Br_known 148 = .ok (.athrow, 1) := by decide +kernel
abbrev b_Br_order : ByteArray := prog_1_method_17_code
abbrev n_Br_order : MethodName := ⟨"BeltRows", "order", "(I)I"⟩
theorem d_Br_order_0 : decode b_Br_order 0 = .ok (.iload_n 1, 1) := by decide +kernel
theorem d_Br_order_1 : decode b_Br_order 1 = .ok (.ifCond .lt 14, 3) := by decide +kernel
theorem d_Br_order_4 : decode b_Br_order 4 = .ok (.iload_n 1, 1) := by decide +kernel
theorem d_Br_order_5 : decode b_Br_order 5 = .ok (.aload_n 0, 1) := by decide +kernel
theorem d_Br_order_6 : decode b_Br_order 6 = .ok (.getfield 28, 3) := by decide +kernel
theorem d_Br_order_9 : decode b_Br_order 9 = .ok (.invokevirtual 45, 3) := by decide +kernel
theorem d_Br_order_12 : decode b_Br_order 12 = .ok (.if_icmp .lt 13, 3) := by decide +kernel
theorem d_Br_order_15 : decode b_Br_order 15 = .ok (.new 135, 3) := by decide +kernel
theorem d_Br_order_18 : decode b_Br_order 18 = .ok (.dup, 1) := by decide +kernel
theorem d_Br_order_19 : decode b_Br_order 19 = .ok (.ldc 215, 2) := by decide +kernel
theorem d_Br_order_21 : decode b_Br_order 21 = .ok (.invokespecial 139, 3) := by decide +kernel
theorem d_Br_order_24 : decode b_Br_order 24 = .ok (.athrow, 1) := by decide +kernel
theorem d_Br_order_25 : decode b_Br_order 25 = .ok (.aload_n 0, 1) := by decide +kernel
theorem d_Br_order_26 : decode b_Br_order 26 = .ok (.getfield 28, 3) := by decide +kernel
theorem d_Br_order_29 : decode b_Br_order 29 = .ok (.iload_n 1, 1) := by decide +kernel
theorem d_Br_order_30 : decode b_Br_order 30 = .ok (.invokevirtual 140, 3) := by decide +kernel
theorem d_Br_order_33 : decode b_Br_order 33 = .ok (.checkcast 109, 3) := by decide +kernel
theorem d_Br_order_36 : decode b_Br_order 36 = .ok (.getfield 116, 3) := by decide +kernel
theorem d_Br_order_39 : decode b_Br_order 39 = .ok (.ireturn, 1) := by decide +kernel
abbrev b_Br_mean : ByteArray := prog_1_method_18_code
abbrev n_Br_mean : MethodName := ⟨"BeltRows", "mean", "()I"⟩
theorem d_Br_mean_0 : decode b_Br_mean 0 = .ok (.aload_n 0, 1) := by decide +kernel
theorem d_Br_mean_1 : decode b_Br_mean 1 = .ok (.getfield 28, 3) := by decide +kernel
theorem d_Br_mean_4 : decode b_Br_mean 4 = .ok (.invokevirtual 45, 3) := by decide +kernel
theorem d_Br_mean_7 : decode b_Br_mean 7 = .ok (.istore_n 1, 1) := by decide +kernel
theorem d_Br_mean_8 : decode b_Br_mean 8 = .ok (.iload_n 1, 1) := by decide +kernel
theorem d_Br_mean_9 : decode b_Br_mean 9 = .ok (.ifCond .ne 13, 3) := by decide +kernel
theorem d_Br_mean_12 : decode b_Br_mean 12 = .ok (.new 217, 3) := by decide +kernel
theorem d_Br_mean_15 : decode b_Br_mean 15 = .ok (.dup, 1) := by decide +kernel
theorem d_Br_mean_16 : decode b_Br_mean 16 = .ok (.ldc 219, 2) := by decide +kernel
theorem d_Br_mean_18 : decode b_Br_mean 18 = .ok (.invokespecial 221, 3) := by decide +kernel
theorem d_Br_mean_21 : decode b_Br_mean 21 = .ok (.athrow, 1) := by decide +kernel
theorem d_Br_mean_22 : decode b_Br_mean 22 = .ok (.aload_n 0, 1) := by decide +kernel
theorem d_Br_mean_23 : decode b_Br_mean 23 = .ok (.getfield 38, 3) := by decide +kernel
theorem d_Br_mean_26 : decode b_Br_mean 26 = .ok (.iload_n 1, 1) := by decide +kernel
theorem d_Br_mean_27 : decode b_Br_mean 27 = .ok (.idiv, 1) := by decide +kernel
theorem d_Br_mean_28 : decode b_Br_mean 28 = .ok (.ireturn, 1) := by decide +kernel
end
section
/-! printed by wip/gen/walk.py out of the bytecode: Br_missingToRoom Br_itemsOnBelts Br_waysTo Br_count Br_giverTo Br_tell Br_tellReads Br_letOut Br_passOnTo Br_noteReads Br_moveItems Br_passSecond Br_init -/
def wb_Br_missingToRoom_27 (e0 mi : Nat) (Q : Int32 → Wd → Prop) (x0 : Nat) (x1 : Option Nat) (z0 : Int32) (w : Wd) : Prop :=
  Q z0 w
set_option maxHeartbeats 4000000 in
set_option maxRecDepth 100000 in
theorem k_Br_missingToRoom_27 {p : Program} {l : Launch} {e : Env} {s : State} {m : MethodId} {args : Array Value} {below : List Frame} {meth : Method} {c : Code} {D : va_G} {AC : Nat → ClassId} {e0 mi : Nat} {A : Nat → Prop} {mc ms : Nat} {Q : Int32 → Wd → Prop} (C : Cx p l s m args meth c D AC e0 mi A n_Br_missingToRoom b_Br_missingToRoom 2 (some .int)) (x0 : Nat) (x1 : Option Nat) (z0 : Int32) (w : Wd) (hq : wb_Br_missingToRoom_27 e0 mi Q x0 x1 z0 w) : ∀ (H : Heap) (locs : List Loc) (cells slots : Nat) (ls : Array Slot), HW D cls8 FTc AC A s.heap H locs w → lv_has ls 2 [(0, va_rf (some x0)), (1, va_rf x1)] → cells ≤ mc → slots ≤ ms → W p l e { frames := 1, cells := mc, slots := ms, locals := 40 } s m args below meth c H locs cells slots (vx_MQ below (QQ D AC A (fun v w9 => ∃ r9 : Int32, v = some (.int r9) ∧ Q r9 w9)) (XX D AC A (fun _ _ => False)) args s mc ms A) (F0 m 27 ls [.int z0]) := by
  obtain ⟨hl0, hx, hb, hr, ht, hown, hlocks, hnm, hml, hex, hK, hA, hZ, hV⟩ := id C
  intro H locs cells slots ls hW hl hc hs
  unfold wb_Br_missingToRoom_27 at hq
  exact bw_iret C hW ⟨_, rfl, hq⟩ d_Br_missingToRoom_27 hc hs
def wp_Br_missingToRoom (e0 mi : Nat) (x0 : Nat) (x1 : Option Nat) (w : Wd) (Q : Int32 → Wd → Prop) : Prop :=
  ∃ a1 : Nat, x1 = some a1 ∧ (bw_is w a1 0 ∧ ((¬ (wR w a1 5) = none → (bw_is w x0 5 ∧ (∃ a5 : Nat, (wR w a1 5) = some a5 ∧ (bw_is w a5 2 ∧ (wp_It_rear e0 mi a5 w (fun i13 w8 => ∀ i14 : Int32, i14 = (if (0 : Int32) < ((wI w x0 6) - i13) then ((wI w x0 6) - i13) else (0 : Int32)) → (wb_Br_missingToRoom_27 e0 mi Q x0 x1 i14 w8))))))) ∧ ((wR w a1 5) = none → (wb_Br_missingToRoom_27 e0 mi Q x0 x1 (0 : Int32) w))))
set_option maxHeartbeats 4000000 in
set_option maxRecDepth 100000 in
theorem k_Br_missingToRoom_0 {p : Program} {l : Launch} {e : Env} {s : State} {m : MethodId} {args : Array Value} {below : List Frame} {meth : Method} {c : Code} {D : va_G} {AC : Nat → ClassId} {e0 mi : Nat} {A : Nat → Prop} {mc ms : Nat} {Q : Int32 → Wd → Prop} (C : Cx p l s m args meth c D AC e0 mi A n_Br_missingToRoom b_Br_missingToRoom 2 (some .int)) (x0 : Nat) (x1 : Option Nat) (w : Wd) (hq : wp_Br_missingToRoom e0 mi x0 x1 w Q) : ∀ (H : Heap) (locs : List Loc) (cells slots : Nat) (ls : Array Slot), HW D cls8 FTc AC A s.heap H locs w → lv_has ls 2 [(0, va_rf (some x0)), (1, va_rf x1)] → cells ≤ mc → slots ≤ ms → W p l e { frames := 1, cells := mc, slots := ms, locals := 40 } s m args below meth c H locs cells slots (vx_MQ below (QQ D AC A (fun v w9 => ∃ r9 : Int32, v = some (.int r9) ∧ Q r9 w9)) (XX D AC A (fun _ _ => False)) args s mc ms A) (F0 m 0 ls []) := by
  obtain ⟨hl0, hx, hb, hr, ht, hown, hlocks, hnm, hml, hex, hK, hA, hZ, hV⟩ := id C
  intro H locs cells slots ls hW hl hc hs
  unfold wp_Br_missingToRoom at hq
  refine bw_aload_n hx hb d_Br_missingToRoom_0 rfl (lv_at hl 1 rfl) ?_
  obtain ⟨a1, ea1, hq⟩ := hq
  obtain ⟨t2, hq⟩ := hq
  refine bw_getR hx hb ht in_Bt hown hK hW ea1 t2 (by decide) rfl 5 (by decide) rfl (ht _ m_250) (fun _ h => h) d_Br_missingToRoom_1 ?_
  refine bw_ifnonnull (tgt := 11) hx hb d_Br_missingToRoom_4 (by decide) (fun c3 => ?_) (fun c3 => ?_)
  · have hq := hq.1 c3
    refine lv_iconst (v := 0) hx hb d_Br_missingToRoom_11 (by decide) ?_
    refine bw_aload_n hx hb d_Br_missingToRoom_12 rfl (lv_at hl 0 rfl) ?_
    obtain ⟨t4, hq⟩ := hq
    refine bw_getI hx hb ht in_Br hown hK hW rfl t4 (by decide) rfl 6 (by decide) rfl (ht _ m_65) (fun _ h => h) d_Br_missingToRoom_13 ?_
    refine bw_aload_n hx hb d_Br_missingToRoom_16 rfl (lv_at hl 1 rfl) ?_
    refine bw_getR hx hb ht in_Bt hown hK hW ea1 t2 (by decide) rfl 5 (by decide) rfl (ht _ m_250) (fun _ h => h) d_Br_missingToRoom_17 ?_
    obtain ⟨a5, ea5, hq⟩ := hq
    obtain ⟨t6, hq⟩ := hq
    refine bw_callV (As := []) (rest := [.int (wI w x0 6), .int (0 : Int32)]) C hW ci_It_rear m_432 m_433 m_434 d_Br_missingToRoom_20 ea5 t6 (by decide) rfl rfl rfl hl.1 (by simp [bw_cat, cat_i, cat_j]) ⟨Nat.le_of_ble_eq_true rfl, Nat.le_of_ble_eq_true rfl⟩ ⟨hc, hs⟩ (c_It_rear hl0 _ _ hq) (fun _ _ _ _ _ _ h => h.elim) (fun v7 w8 H locs hv hW => ?_)
    obtain ⟨i13, rfl, hq⟩ := hv
    refine W.eq (g2 := F0 m 23 ls [.int i13, .int (wI w x0 6), .int (0 : Int32)]) rfl ?_
    refine lv_isub hx hb d_Br_missingToRoom_23 ?_
    refine va_mmax hx hb (by rw [hml]; exact hl.1.symm) hown (ht _ m_436) (ht _ m_294) (ht _ m_14) (ht _ m_295) (Nat.le_of_ble_eq_true rfl) (by exact Nat.le_of_ble_eq_true rfl) hc hs d_Br_missingToRoom_24 ?_
    refine lv_topi (fun i14 ei14 => ?_)
    have hq := hq i14 ei14
    exact k_Br_missingToRoom_27 C  _ _ _ _ hq _ _ _ _ _ hW (lv_sub hl [0, 1] rfl) hc hs
  · have hq := hq.2 c3
    refine lv_iconst (v := 0) hx hb d_Br_missingToRoom_7 (by decide) ?_
    refine lv_goto (tgt := 27) hx hb d_Br_missingToRoom_8 (by decide) ?_
    exact k_Br_missingToRoom_27 C  _ _ _ _ hq _ _ _ _ _ hW (lv_sub hl [0, 1] rfl) hc hs
theorem ci_Br_missingToRoom : CI n_Br_missingToRoom b_Br_missingToRoom 2 (some .int) 1 := ⟨m_431, m_1, by decide, by decide, by decide +kernel⟩
theorem sel_Br_missingToRoom : Cond.selects "BeltRows" n_Br_missingToRoom n_Br_missingToRoom ∈ TBL := List.mem_filter.mpr ⟨List.mem_append_left _ (List.mem_map.mpr ⟨(n_Br_missingToRoom, 9), by decide +kernel, rfl⟩), rfl⟩
theorem c_Br_missingToRoom {l : Launch} {D : va_G} {AC : Nat → ClassId} {e0 mi : Nat} {Q : Int32 → Wd → Prop} (hl0 : l.stackTraces = false) (x0 : Nat) (x1 : Option Nat) (w : Wd) (hq : wp_Br_missingToRoom e0 mi x0 x1 w Q) : Ct l D AC e0 mi n_Br_missingToRoom (wy n_Br_missingToRoom b_Br_missingToRoom 2 (some .int)) 1 40 [va_rf (some x0), va_rf x1] w 0 0 (fun v w9 => ∃ r9 : Int32, v = some (.int r9) ∧ Q r9 w9) (fun _ _ => False) :=
  Ct.of hl0 (by decide) (by simp [lg_sl, bw_cat, cat_i, cat_j]) (fun p e s m args below meth c A ls C hW hl => k_Br_missingToRoom_0 C x0 x1 w hq s.heap [] 0 0 ls hW (by simpa [lv_args, bw_cat, cat_i, cat_j] using hl) (Nat.le_refl _) (Nat.le_refl _))
def wb_Br_itemsOnBelts_4 (e0 mi : Nat) (Q : Int32 → Wd → Prop) : Nat → Nat → Int32 → Int32 → Wd → Prop
  | 0, _, _, _, _ => False
  | n + 1, x0, x1, x2, w => bw_is w x0 5 ∧ (∃ a2 : Nat, (wR w x0 0) = some a2 ∧ (bw_is w a2 7 ∧ (wp_Al_size e0 mi a2 w (fun i10 w5 => (i10 ≤ x2 → (Q x1 w5)) ∧ (¬ i10 ≤ x2 → (bw_is w5 x0 5 ∧ (∃ a13 : Nat, (wR w5 x0 0) = some a13 ∧ (bw_is w5 a13 7 ∧ (wp_Al_get e0 mi a13 x2 w5 (fun r21 w16 => (∀ a23, r21 = some a23 → bw_is w16 a23 0) ∧ (∃ a24 : Nat, r21 = some a24 ∧ (bw_is w16 a24 0 ∧ (∀ i26 : Int32, i26 = x1 + (wI w16 a24 6) → (∀ i27 : Int32, i27 = x2 + 1 → ((wb_Br_itemsOnBelts_4 e0 mi Q n) x0 i26 i27 w16)))))))))))))))
set_option maxHeartbeats 4000000 in
set_option maxRecDepth 100000 in
theorem k_Br_itemsOnBelts_4 {p : Program} {l : Launch} {e : Env} {s : State} {m : MethodId} {args : Array Value} {below : List Frame} {meth : Method} {c : Code} {D : va_G} {AC : Nat → ClassId} {e0 mi : Nat} {A : Nat → Prop} {mc ms : Nat} {Q : Int32 → Wd → Prop} (C : Cx p l s m args meth c D AC e0 mi A n_Br_itemsOnBelts b_Br_itemsOnBelts 3 (some .int)) : ∀ (n : Nat) (x0 : Nat) (x1 : Int32) (x2 : Int32) (w : Wd), wb_Br_itemsOnBelts_4 e0 mi Q n x0 x1 x2 w → ∀ (H : Heap) (locs : List Loc) (cells slots : Nat) (ls : Array Slot), HW D cls8 FTc AC A s.heap H locs w → lv_has ls 3 [(0, va_rf (some x0)), (1, .int x1), (2, .int x2)] → cells ≤ mc → slots ≤ ms → W p l e { frames := 3, cells := mc, slots := ms, locals := 64 } s m args below meth c H locs cells slots (vx_MQ below (QQ D AC A (fun v w9 => ∃ r9 : Int32, v = some (.int r9) ∧ Q r9 w9)) (XX D AC A (fun _ _ => False)) args s mc ms A) (F0 m 4 ls []) := by
  obtain ⟨hl0, hx, hb, hr, ht, hown, hlocks, hnm, hml, hex, hK, hA, hZ, hV⟩ := id C
  intro n
  induction n with
  | zero =>
    intro x0 x1 x2 w hq
    exact hq.elim
  | succ n ih =>
    intro x0 x1 x2 w hq H locs cells slots ls hW hl hc hs
    have hK4 := ih
    unfold wb_Br_itemsOnBelts_4 at hq
    refine lv_iload_n hx hb d_Br_itemsOnBelts_4 rfl (lv_at hl 2 rfl) ?_
    refine bw_aload_n hx hb d_Br_itemsOnBelts_5 rfl (lv_at hl 0 rfl) ?_
    obtain ⟨t1, hq⟩ := hq
    refine bw_getR hx hb ht in_Br hown hK hW rfl t1 (by decide) rfl 0 (by decide) rfl (ht _ m_59) (fun _ h => h) d_Br_itemsOnBelts_6 ?_
    obtain ⟨a2, ea2, hq⟩ := hq
    obtain ⟨t3, hq⟩ := hq
    refine bw_callV (As := []) (rest := [.int x2]) C hW ci_Al_size m_91 m_92 m_93 d_Br_itemsOnBelts_9 ea2 t3 (by decide) rfl rfl rfl hl.1 (by simp [bw_cat, cat_i, cat_j]) ⟨Nat.le_of_ble_eq_true rfl, Nat.le_of_ble_eq_true rfl⟩ ⟨hc, hs⟩ (c_Al_size hl0 _ _ hq) (fun _ _ _ _ _ _ h => h.elim) (fun v4 w5 H locs hv hW => ?_)
    obtain ⟨i10, rfl, hq⟩ := hv
    refine W.eq (g2 := F0 m 12 ls [.int i10, .int x2]) rfl ?_
    refine lv_icmp_ge (tgt := 38) hx hb d_Br_itemsOnBelts_12 (by decide) (fun c11 => ?_) (fun c11 => ?_)
    · have hq := hq.1 c11
      refine lv_iload_n hx hb d_Br_itemsOnBelts_38 rfl (lv_at hl 1 rfl) ?_
      exact bw_iret C hW ⟨_, rfl, hq⟩ d_Br_itemsOnBelts_39 hc hs
    · have hq := hq.2 c11
      refine lv_iload_n hx hb d_Br_itemsOnBelts_15 rfl (lv_at hl 1 rfl) ?_
      refine bw_aload_n hx hb d_Br_itemsOnBelts_16 rfl (lv_at hl 0 rfl) ?_
      obtain ⟨t12, hq⟩ := hq
      refine bw_getR hx hb ht in_Br hown hK hW rfl t12 (by decide) rfl 0 (by decide) rfl (ht _ m_59) (fun _ h => h) d_Br_itemsOnBelts_17 ?_
      refine lv_iload_n hx hb d_Br_itemsOnBelts_20 rfl (lv_at hl 2 rfl) ?_
      obtain ⟨a13, ea13, hq⟩ := hq
      obtain ⟨t14, hq⟩ := hq
      refine bw_callV (As := [.int x2]) (rest := [.int x1]) C hW ci_Al_get m_99 m_100 m_101 d_Br_itemsOnBelts_21 ea13 t14 (by decide) rfl rfl rfl hl.1 (by simp [bw_cat, cat_i, cat_j]) ⟨Nat.le_of_ble_eq_true rfl, Nat.le_of_ble_eq_true rfl⟩ ⟨hc, hs⟩ (c_Al_get hl0 _ _ _ hq) (fun _ _ _ _ _ _ h => h.elim) (fun v15 w16 H locs hv hW => ?_)
      obtain ⟨r21, rfl, hq⟩ := hv
      refine W.eq (g2 := F0 m 24 ls [va_rf r21, .int x1]) rfl ?_
      obtain ⟨h22, hq⟩ := hq
      refine bw_cast C hW m_113 (cn := 0) rfl (by decide) (by decide +kernel) h22 d_Br_itemsOnBelts_24 ?_
      obtain ⟨a24, ea24, hq⟩ := hq
      obtain ⟨t25, hq⟩ := hq
      refine bw_getI hx hb ht in_Bt hown hK hW ea24 t25 (by decide) rfl 6 (by decide) rfl (ht _ m_252) (fun _ h => h) d_Br_itemsOnBelts_27 ?_
      refine lv_iadd hx hb d_Br_itemsOnBelts_30 ?_
      refine lv_topi (fun i26 ei26 => ?_)
      have hq := hq i26 ei26
      refine lv_istore_n (i := 1) (lv' := [(1, .int i26), (0, va_rf (some x0)), (2, .int x2)]) hx hb d_Br_itemsOnBelts_31 rfl hl (by decide) (by simp [bw_cat, cat_i, cat_j]) (fun ls hl => ?_)
      obtain ⟨i27, ei27⟩ : ∃ y : Int32, y = x2 + 1 := ⟨_, rfl⟩
      have hq := hq i27 ei27
      refine lv_iinc (v := i27) (lv' := [(2, .int i27), (1, .int i26), (0, va_rf (some x0))]) hx hb d_Br_itemsOnBelts_32 hl (k := 2) rfl (by rw [ei27]; rfl) (by decide) (by simp [bw_cat, cat_i, cat_j]) (fun ls hl => ?_)
      refine lv_goto (tgt := 4) hx hb d_Br_itemsOnBelts_35 (by decide) ?_
      exact hK4 _ _ _ _ hq _ _ _ _ _ hW (lv_sub hl [2, 1, 0] rfl) hc hs
def wp_Br_itemsOnBelts (e0 mi : Nat) (x0 : Nat) (w : Wd) (Q : Int32 → Wd → Prop) : Prop :=
  ∃ n1 : Nat, wb_Br_itemsOnBelts_4 e0 mi Q n1 x0 (0 : Int32) (0 : Int32) w
set_option maxHeartbeats 4000000 in
set_option maxRecDepth 100000 in
theorem k_Br_itemsOnBelts_0 {p : Program} {l : Launch} {e : Env} {s : State} {m : MethodId} {args : Array Value} {below : List Frame} {meth : Method} {c : Code} {D : va_G} {AC : Nat → ClassId} {e0 mi : Nat} {A : Nat → Prop} {mc ms : Nat} {Q : Int32 → Wd → Prop} (C : Cx p l s m args meth c D AC e0 mi A n_Br_itemsOnBelts b_Br_itemsOnBelts 3 (some .int)) (x0 : Nat) (w : Wd) (hq : wp_Br_itemsOnBelts e0 mi x0 w Q) : ∀ (H : Heap) (locs : List Loc) (cells slots : Nat) (ls : Array Slot), HW D cls8 FTc AC A s.heap H locs w → lv_has ls 3 [(0, va_rf (some x0))] → cells ≤ mc → slots ≤ ms → W p l e { frames := 3, cells := mc, slots := ms, locals := 64 } s m args below meth c H locs cells slots (vx_MQ below (QQ D AC A (fun v w9 => ∃ r9 : Int32, v = some (.int r9) ∧ Q r9 w9)) (XX D AC A (fun _ _ => False)) args s mc ms A) (F0 m 0 ls []) := by
  obtain ⟨hl0, hx, hb, hr, ht, hown, hlocks, hnm, hml, hex, hK, hA, hZ, hV⟩ := id C
  intro H locs cells slots ls hW hl hc hs
  unfold wp_Br_itemsOnBelts at hq
  refine lv_iconst (v := 0) hx hb d_Br_itemsOnBelts_0 (by decide) ?_
  refine lv_istore_n (i := 1) (lv' := [(1, .int (0 : Int32)), (0, va_rf (some x0))]) hx hb d_Br_itemsOnBelts_1 rfl hl (by decide) (by simp [bw_cat, cat_i, cat_j]) (fun ls hl => ?_)
  refine lv_iconst (v := 0) hx hb d_Br_itemsOnBelts_2 (by decide) ?_
  refine lv_istore_n (i := 2) (lv' := [(2, .int (0 : Int32)), (1, .int (0 : Int32)), (0, va_rf (some x0))]) hx hb d_Br_itemsOnBelts_3 rfl hl (by decide) (by simp [bw_cat, cat_i, cat_j]) (fun ls hl => ?_)
  obtain ⟨n1, hq⟩ := hq
  exact k_Br_itemsOnBelts_4 C  n1 _ _ _ _ hq _ _ _ _ _ hW (lv_sub hl [2, 1, 0] rfl) hc hs
theorem ci_Br_itemsOnBelts : CI n_Br_itemsOnBelts b_Br_itemsOnBelts 3 (some .int) 0 := ⟨m_98, m_1, by decide, by decide, by decide +kernel⟩
theorem sel_Br_itemsOnBelts : Cond.selects "BeltRows" n_Br_itemsOnBelts n_Br_itemsOnBelts ∈ TBL := List.mem_filter.mpr ⟨List.mem_append_left _ (List.mem_map.mpr ⟨(n_Br_itemsOnBelts, 9), by decide +kernel, rfl⟩), rfl⟩
theorem c_Br_itemsOnBelts {l : Launch} {D : va_G} {AC : Nat → ClassId} {e0 mi : Nat} {Q : Int32 → Wd → Prop} (hl0 : l.stackTraces = false) (x0 : Nat) (w : Wd) (hq : wp_Br_itemsOnBelts e0 mi x0 w Q) : Ct l D AC e0 mi n_Br_itemsOnBelts (wy n_Br_itemsOnBelts b_Br_itemsOnBelts 3 (some .int)) 3 64 [va_rf (some x0)] w 0 0 (fun v w9 => ∃ r9 : Int32, v = some (.int r9) ∧ Q r9 w9) (fun _ _ => False) :=
  Ct.of hl0 (by decide) (by simp [lg_sl, bw_cat, cat_i, cat_j]) (fun p e s m args below meth c A ls C hW hl => k_Br_itemsOnBelts_0 C x0 w hq s.heap [] 0 0 ls hW (by simpa [lv_args, bw_cat, cat_i, cat_j] using hl) (Nat.le_refl _) (Nat.le_refl _))
def wb_Br_waysTo_68 (e0 mi : Nat) (K4 : Nat → Option Nat → Int32 → Int32 → Wd → Prop) (Q : Int32 → Wd → Prop) (x0 : Nat) (x1 : Option Nat) (x2 : Int32) (x3 : Int32) (x4 : Option Nat) (z0 : Int32) (z1 : Int32) (w : Wd) : Prop :=
  ∀ i1 : Int32, i1 = z0 + z1 → (∀ i2 : Int32, i2 = x3 + 1 → (K4 x0 x1 i1 i2 w))
set_option maxHeartbeats 4000000 in
set_option maxRecDepth 100000 in
theorem k_Br_waysTo_68 {p : Program} {l : Launch} {e : Env} {s : State} {m : MethodId} {args : Array Value} {below : List Frame} {meth : Method} {c : Code} {D : va_G} {AC : Nat → ClassId} {e0 mi : Nat} {A : Nat → Prop} {mc ms : Nat} {K4 : Nat → Option Nat → Int32 → Int32 → Wd → Prop} {Q : Int32 → Wd → Prop} (C : Cx p l s m args meth c D AC e0 mi A n_Br_waysTo b_Br_waysTo 5 (some .int)) (hK4 : ∀ (x0 : Nat) (x1 : Option Nat) (x2 : Int32) (x3 : Int32) (w : Wd), K4 x0 x1 x2 x3 w → ∀ (H : Heap) (locs : List Loc) (cells slots : Nat) (ls : Array Slot), HW D cls8 FTc AC A s.heap H locs w → lv_has ls 5 [(0, va_rf (some x0)), (1, va_rf x1), (2, .int x2), (3, .int x3)] → cells ≤ mc → slots ≤ ms → W p l e { frames := 3, cells := mc, slots := ms, locals := 64 } s m args below meth c H locs cells slots (vx_MQ below (QQ D AC A (fun v w9 => ∃ r9 : Int32, v = some (.int r9) ∧ Q r9 w9)) (XX D AC A (fun _ _ => False)) args s mc ms A) (F0 m 4 ls [])) (x0 : Nat) (x1 : Option Nat) (x2 : Int32) (x3 : Int32) (x4 : Option Nat) (z0 : Int32) (z1 : Int32) (w : Wd) (hq : wb_Br_waysTo_68 e0 mi K4 Q x0 x1 x2 x3 x4 z0 z1 w) : ∀ (H : Heap) (locs : List Loc) (cells slots : Nat) (ls : Array Slot), HW D cls8 FTc AC A s.heap H locs w → lv_has ls 5 [(0, va_rf (some x0)), (1, va_rf x1), (2, .int x2), (3, .int x3), (4, va_rf x4)] → cells ≤ mc → slots ≤ ms → W p l e { frames := 3, cells := mc, slots := ms, locals := 64 } s m args below meth c H locs cells slots (vx_MQ below (QQ D AC A (fun v w9 => ∃ r9 : Int32, v = some (.int r9) ∧ Q r9 w9)) (XX D AC A (fun _ _ => False)) args s mc ms A) (F0 m 68 ls [.int z1, .int z0]) := by
  obtain ⟨hl0, hx, hb, hr, ht, hown, hlocks, hnm, hml, hex, hK, hA, hZ, hV⟩ := id C
  intro H locs cells slots ls hW hl hc hs
  unfold wb_Br_waysTo_68 at hq
  refine lv_iadd hx hb d_Br_waysTo_68 ?_
  refine lv_topi (fun i1 ei1 => ?_)
  have hq := hq i1 ei1
  refine lv_istore_n (i := 2) (lv' := [(2, .int i1), (0, va_rf (some x0)), (1, va_rf x1), (3, .int x3), (4, va_rf x4)]) hx hb d_Br_waysTo_69 rfl hl (by decide) (by simp [bw_cat, cat_i, cat_j]) (fun ls hl => ?_)
  obtain ⟨i2, ei2⟩ : ∃ y : Int32, y = x3 + 1 := ⟨_, rfl⟩
  have hq := hq i2 ei2
  refine lv_iinc (v := i2) (lv' := [(3, .int i2), (2, .int i1), (0, va_rf (some x0)), (1, va_rf x1), (4, va_rf x4)]) hx hb d_Br_waysTo_70 hl (k := 3) rfl (by rw [ei2]; rfl) (by decide) (by simp [bw_cat, cat_i, cat_j]) (fun ls hl => ?_)
  refine lv_goto (tgt := 4) hx hb d_Br_waysTo_73 (by decide) ?_
  exact hK4 _ _ _ _ _ hq _ _ _ _ _ hW (lv_sub hl [2, 3, 1, 0] rfl) hc hs
def wb_Br_waysTo_47 (e0 mi : Nat) (K4 : Nat → Option Nat → Int32 → Int32 → Wd → Prop) (Q : Int32 → Wd → Prop) (x0 : Nat) (x1 : Option Nat) (x2 : Int32) (x3 : Int32) (x4 : Option Nat) (z0 : Int32) (z1 : Int32) (w : Wd) : Prop :=
  ∀ i1 : Int32, i1 = z0 + z1 → (∃ a2 : Nat, x4 = some a2 ∧ (bw_is w a2 0 ∧ (wp_Bt_wayNumbered e0 mi a2 (1 : Int32) w (fun r10 w5 => ∃ a11 : Nat, r10 = some a11 ∧ (bw_is w5 a11 4 ∧ ((¬ (wR w5 a11 0) = x1 → (wb_Br_waysTo_68 e0 mi K4 Q x0 x1 i1 x3 x4 i1 (0 : Int32) w5)) ∧ ((wR w5 a11 0) = x1 → (wb_Br_waysTo_68 e0 mi K4 Q x0 x1 i1 x3 x4 i1 (1 : Int32) w5))))))))
set_option maxHeartbeats 4000000 in
set_option maxRecDepth 100000 in
theorem k_Br_waysTo_47 {p : Program} {l : Launch} {e : Env} {s : State} {m : MethodId} {args : Array Value} {below : List Frame} {meth : Method} {c : Code} {D : va_G} {AC : Nat → ClassId} {e0 mi : Nat} {A : Nat → Prop} {mc ms : Nat} {K4 : Nat → Option Nat → Int32 → Int32 → Wd → Prop} {Q : Int32 → Wd → Prop} (C : Cx p l s m args meth c D AC e0 mi A n_Br_waysTo b_Br_waysTo 5 (some .int)) (hK4 : ∀ (x0 : Nat) (x1 : Option Nat) (x2 : Int32) (x3 : Int32) (w : Wd), K4 x0 x1 x2 x3 w → ∀ (H : Heap) (locs : List Loc) (cells slots : Nat) (ls : Array Slot), HW D cls8 FTc AC A s.heap H locs w → lv_has ls 5 [(0, va_rf (some x0)), (1, va_rf x1), (2, .int x2), (3, .int x3)] → cells ≤ mc → slots ≤ ms → W p l e { frames := 3, cells := mc, slots := ms, locals := 64 } s m args below meth c H locs cells slots (vx_MQ below (QQ D AC A (fun v w9 => ∃ r9 : Int32, v = some (.int r9) ∧ Q r9 w9)) (XX D AC A (fun _ _ => False)) args s mc ms A) (F0 m 4 ls [])) (x0 : Nat) (x1 : Option Nat) (x2 : Int32) (x3 : Int32) (x4 : Option Nat) (z0 : Int32) (z1 : Int32) (w : Wd) (hq : wb_Br_waysTo_47 e0 mi K4 Q x0 x1 x2 x3 x4 z0 z1 w) : ∀ (H : Heap) (locs : List Loc) (cells slots : Nat) (ls : Array Slot), HW D cls8 FTc AC A s.heap H locs w → lv_has ls 5 [(0, va_rf (some x0)), (1, va_rf x1), (2, .int x2), (3, .int x3), (4, va_rf x4)] → cells ≤ mc → slots ≤ ms → W p l e { frames := 3, cells := mc, slots := ms, locals := 64 } s m args below meth c H locs cells slots (vx_MQ below (QQ D AC A (fun v w9 => ∃ r9 : Int32, v = some (.int r9) ∧ Q r9 w9)) (XX D AC A (fun _ _ => False)) args s mc ms A) (F0 m 47 ls [.int z1, .int z0]) := by
  obtain ⟨hl0, hx, hb, hr, ht, hown, hlocks, hnm, hml, hex, hK, hA, hZ, hV⟩ := id C
  intro H locs cells slots ls hW hl hc hs
  unfold wb_Br_waysTo_47 at hq
  refine lv_iadd hx hb d_Br_waysTo_47 ?_
  refine lv_topi (fun i1 ei1 => ?_)
  have hq := hq i1 ei1
  refine lv_istore_n (i := 2) (lv' := [(2, .int i1), (0, va_rf (some x0)), (1, va_rf x1), (3, .int x3), (4, va_rf x4)]) hx hb d_Br_waysTo_48 rfl hl (by decide) (by simp [bw_cat, cat_i, cat_j]) (fun ls hl => ?_)
  refine lv_iload_n hx hb d_Br_waysTo_49 rfl (lv_at hl 0 rfl) ?_
  refine bw_aload hx hb d_Br_waysTo_50 (lv_at hl 4 rfl) ?_
  refine lv_iconst (v := 1) hx hb d_Br_waysTo_52 (by decide) ?_
  obtain ⟨a2, ea2, hq⟩ := hq
  obtain ⟨t3, hq⟩ := hq
  refine bw_callV (As := [.int (1 : Int32)]) (rest := [.int i1]) C hW ci_Bt_wayNumbered m_363 m_364 m_365 d_Br_waysTo_53 ea2 t3 (by decide) rfl rfl rfl hl.1 (by simp [bw_cat, cat_i, cat_j]) ⟨Nat.le_of_ble_eq_true rfl, Nat.le_of_ble_eq_true rfl⟩ ⟨hc, hs⟩ (c_Bt_wayNumbered hl0 _ _ _ hq) (fun _ _ _ _ _ _ h => h.elim) (fun v4 w5 H locs hv hW => ?_)
  obtain ⟨r10, rfl, hq⟩ := hv
  refine W.eq (g2 := F0 m 56 ls [va_rf r10, .int i1]) rfl ?_
  obtain ⟨a11, ea11, hq⟩ := hq
  obtain ⟨t12, hq⟩ := hq
  refine bw_getR hx hb ht in_Wy hown hK hW ea11 t12 (by decide) rfl 0 (by decide) rfl (ht _ m_225) (fun _ h => h) d_Br_waysTo_56 ?_
  refine bw_aload_n hx hb d_Br_waysTo_59 rfl (lv_at hl 2 rfl) ?_
  refine lv_acmp_ne (tgt := 67) hx hb d_Br_waysTo_60 (by decide) (fun c13 => ?_) (fun c13 => ?_)
  · have hq := hq.1 c13
    refine lv_iconst (v := 0) hx hb d_Br_waysTo_67 (by decide) ?_
    exact k_Br_waysTo_68 C hK4 _ _ _ _ _ _ _ _ hq _ _ _ _ _ hW (lv_sub hl [1, 2, 0, 3, 4] rfl) hc hs
  · have hq := hq.2 c13
    refine lv_iconst (v := 1) hx hb d_Br_waysTo_63 (by decide) ?_
    refine lv_goto (tgt := 68) hx hb d_Br_waysTo_64 (by decide) ?_
    exact k_Br_waysTo_68 C hK4 _ _ _ _ _ _ _ _ hq _ _ _ _ _ hW (lv_sub hl [1, 2, 0, 3, 4] rfl) hc hs
def wb_Br_waysTo_4 (e0 mi : Nat) (Q : Int32 → Wd → Prop) : Nat → Nat → Option Nat → Int32 → Int32 → Wd → Prop
  | 0, _, _, _, _, _ => False
  | n + 1, x0, x1, x2, x3, w => bw_is w x0 5 ∧ (∃ a2 : Nat, (wR w x0 0) = some a2 ∧ (bw_is w a2 7 ∧ (wp_Al_size e0 mi a2 w (fun i10 w5 => (i10 ≤ x3 → (Q x2 w5)) ∧ (¬ i10 ≤ x3 → (bw_is w5 x0 5 ∧ (∃ a13 : Nat, (wR w5 x0 0) = some a13 ∧ (bw_is w5 a13 7 ∧ (wp_Al_get e0 mi a13 x3 w5 (fun r21 w16 => (∀ a23, r21 = some a23 → bw_is w16 a23 0) ∧ (∃ a24 : Nat, r21 = some a24 ∧ (bw_is w16 a24 0 ∧ (wp_Bt_wayNumbered e0 mi a24 (0 : Int32) w16 (fun r32 w27 => ∃ a33 : Nat, r32 = some a33 ∧ (bw_is w27 a33 4 ∧ ((¬ (wR w27 a33 0) = x1 → (wb_Br_waysTo_47 e0 mi (wb_Br_waysTo_4 e0 mi Q n) Q x0 x1 x2 x3 r21 x2 (0 : Int32) w27)) ∧ ((wR w27 a33 0) = x1 → (wb_Br_waysTo_47 e0 mi (wb_Br_waysTo_4 e0 mi Q n) Q x0 x1 x2 x3 r21 x2 (1 : Int32) w27))))))))))))))))))
set_option maxHeartbeats 4000000 in
set_option maxRecDepth 100000 in
theorem k_Br_waysTo_4 {p : Program} {l : Launch} {e : Env} {s : State} {m : MethodId} {args : Array Value} {below : List Frame} {meth : Method} {c : Code} {D : va_G} {AC : Nat → ClassId} {e0 mi : Nat} {A : Nat → Prop} {mc ms : Nat} {Q : Int32 → Wd → Prop} (C : Cx p l s m args meth c D AC e0 mi A n_Br_waysTo b_Br_waysTo 5 (some .int)) : ∀ (n : Nat) (x0 : Nat) (x1 : Option Nat) (x2 : Int32) (x3 : Int32) (w : Wd), wb_Br_waysTo_4 e0 mi Q n x0 x1 x2 x3 w → ∀ (H : Heap) (locs : List Loc) (cells slots : Nat) (ls : Array Slot), HW D cls8 FTc AC A s.heap H locs w → lv_has ls 5 [(0, va_rf (some x0)), (1, va_rf x1), (2, .int x2), (3, .int x3)] → cells ≤ mc → slots ≤ ms → W p l e { frames := 3, cells := mc, slots := ms, locals := 64 } s m args below meth c H locs cells slots (vx_MQ below (QQ D AC A (fun v w9 => ∃ r9 : Int32, v = some (.int r9) ∧ Q r9 w9)) (XX D AC A (fun _ _ => False)) args s mc ms A) (F0 m 4 ls []) := by
  obtain ⟨hl0, hx, hb, hr, ht, hown, hlocks, hnm, hml, hex, hK, hA, hZ, hV⟩ := id C
  intro n
  induction n with
  | zero =>
    intro x0 x1 x2 x3 w hq
    exact hq.elim
  | succ n ih =>
    intro x0 x1 x2 x3 w hq H locs cells slots ls hW hl hc hs
    have hK4 := ih
    unfold wb_Br_waysTo_4 at hq
    refine lv_iload_n hx hb d_Br_waysTo_4 rfl (lv_at hl 3 rfl) ?_
    refine bw_aload_n hx hb d_Br_waysTo_5 rfl (lv_at hl 0 rfl) ?_
    obtain ⟨t1, hq⟩ := hq
    refine bw_getR hx hb ht in_Br hown hK hW rfl t1 (by decide) rfl 0 (by decide) rfl (ht _ m_59) (fun _ h => h) d_Br_waysTo_6 ?_
    obtain ⟨a2, ea2, hq⟩ := hq
    obtain ⟨t3, hq⟩ := hq
    refine bw_callV (As := []) (rest := [.int x3]) C hW ci_Al_size m_91 m_92 m_93 d_Br_waysTo_9 ea2 t3 (by decide) rfl rfl rfl hl.1 (by simp [bw_cat, cat_i, cat_j]) ⟨Nat.le_of_ble_eq_true rfl, Nat.le_of_ble_eq_true rfl⟩ ⟨hc, hs⟩ (c_Al_size hl0 _ _ hq) (fun _ _ _ _ _ _ h => h.elim) (fun v4 w5 H locs hv hW => ?_)
    obtain ⟨i10, rfl, hq⟩ := hv
    refine W.eq (g2 := F0 m 12 ls [.int i10, .int x3]) rfl ?_
    refine lv_icmp_ge (tgt := 76) hx hb d_Br_waysTo_12 (by decide) (fun c11 => ?_) (fun c11 => ?_)
    · have hq := hq.1 c11
      refine lv_iload_n hx hb d_Br_waysTo_76 rfl (lv_at hl 2 rfl) ?_
      exact bw_iret C hW ⟨_, rfl, hq⟩ d_Br_waysTo_77 hc hs
    · have hq := hq.2 c11
      refine bw_aload_n hx hb d_Br_waysTo_15 rfl (lv_at hl 0 rfl) ?_
      obtain ⟨t12, hq⟩ := hq
      refine bw_getR hx hb ht in_Br hown hK hW rfl t12 (by decide) rfl 0 (by decide) rfl (ht _ m_59) (fun _ h => h) d_Br_waysTo_16 ?_
      refine lv_iload_n hx hb d_Br_waysTo_19 rfl (lv_at hl 3 rfl) ?_
      obtain ⟨a13, ea13, hq⟩ := hq
      obtain ⟨t14, hq⟩ := hq
      refine bw_callV (As := [.int x3]) (rest := []) C hW ci_Al_get m_99 m_100 m_101 d_Br_waysTo_20 ea13 t14 (by decide) rfl rfl rfl hl.1 (by decide) ⟨Nat.le_of_ble_eq_true rfl, Nat.le_of_ble_eq_true rfl⟩ ⟨hc, hs⟩ (c_Al_get hl0 _ _ _ hq) (fun _ _ _ _ _ _ h => h.elim) (fun v15 w16 H locs hv hW => ?_)
      obtain ⟨r21, rfl, hq⟩ := hv
      refine W.eq (g2 := F0 m 23 ls [va_rf r21]) rfl ?_
      obtain ⟨h22, hq⟩ := hq
      refine bw_cast C hW m_113 (cn := 0) rfl (by decide) (by decide +kernel) h22 d_Br_waysTo_23 ?_
      refine bw_astore (lv' := [(4, va_rf r21), (0, va_rf (some x0)), (1, va_rf x1), (2, .int x2), (3, .int x3)]) hx hb d_Br_waysTo_26 hl (by decide) (by simp [bw_cat, cat_i, cat_j]) (fun ls hl => ?_)
      refine lv_iload_n hx hb d_Br_waysTo_28 rfl (lv_at hl 3 rfl) ?_
      refine bw_aload hx hb d_Br_waysTo_29 (lv_at hl 0 rfl) ?_
      refine lv_iconst (v := 0) hx hb d_Br_waysTo_31 (by decide) ?_
      obtain ⟨a24, ea24, hq⟩ := hq
      obtain ⟨t25, hq⟩ := hq
      refine bw_callV (As := [.int (0 : Int32)]) (rest := [.int x2]) C hW ci_Bt_wayNumbered m_363 m_364 m_365 d_Br_waysTo_32 ea24 t25 (by decide) rfl rfl rfl hl.1 (by simp [bw_cat, cat_i, cat_j]) ⟨Nat.le_of_ble_eq_true rfl, Nat.le_of_ble_eq_true rfl⟩ ⟨hc, hs⟩ (c_Bt_wayNumbered hl0 _ _ _ hq) (fun _ _ _ _ _ _ h => h.elim) (fun v26 w27 H locs hv hW => ?_)
      obtain ⟨r32, rfl, hq⟩ := hv
      refine W.eq (g2 := F0 m 35 ls [va_rf r32, .int x2]) rfl ?_
      obtain ⟨a33, ea33, hq⟩ := hq
      obtain ⟨t34, hq⟩ := hq
      refine bw_getR hx hb ht in_Wy hown hK hW ea33 t34 (by decide) rfl 0 (by decide) rfl (ht _ m_225) (fun _ h => h) d_Br_waysTo_35 ?_
      refine bw_aload_n hx hb d_Br_waysTo_38 rfl (lv_at hl 2 rfl) ?_
      refine lv_acmp_ne (tgt := 46) hx hb d_Br_waysTo_39 (by decide) (fun c35 => ?_) (fun c35 => ?_)
      · have hq := hq.1 c35
        refine lv_iconst (v := 0) hx hb d_Br_waysTo_46 (by decide) ?_
        exact k_Br_waysTo_47 C hK4 _ _ _ _ _ _ _ _ hq _ _ _ _ _ hW (lv_sub hl [1, 2, 3, 4, 0] rfl) hc hs
      · have hq := hq.2 c35
        refine lv_iconst (v := 1) hx hb d_Br_waysTo_42 (by decide) ?_
        refine lv_goto (tgt := 47) hx hb d_Br_waysTo_43 (by decide) ?_
        exact k_Br_waysTo_47 C hK4 _ _ _ _ _ _ _ _ hq _ _ _ _ _ hW (lv_sub hl [1, 2, 3, 4, 0] rfl) hc hs
def wp_Br_waysTo (e0 mi : Nat) (x0 : Nat) (x1 : Option Nat) (w : Wd) (Q : Int32 → Wd → Prop) : Prop :=
  ∃ n1 : Nat, wb_Br_waysTo_4 e0 mi Q n1 x0 x1 (0 : Int32) (0 : Int32) w
set_option maxHeartbeats 4000000 in
set_option maxRecDepth 100000 in
theorem k_Br_waysTo_0 {p : Program} {l : Launch} {e : Env} {s : State} {m : MethodId} {args : Array Value} {below : List Frame} {meth : Method} {c : Code} {D : va_G} {AC : Nat → ClassId} {e0 mi : Nat} {A : Nat → Prop} {mc ms : Nat} {Q : Int32 → Wd → Prop} (C : Cx p l s m args meth c D AC e0 mi A n_Br_waysTo b_Br_waysTo 5 (some .int)) (x0 : Nat) (x1 : Option Nat) (w : Wd) (hq : wp_Br_waysTo e0 mi x0 x1 w Q) : ∀ (H : Heap) (locs : List Loc) (cells slots : Nat) (ls : Array Slot), HW D cls8 FTc AC A s.heap H locs w → lv_has ls 5 [(0, va_rf (some x0)), (1, va_rf x1)] → cells ≤ mc → slots ≤ ms → W p l e { frames := 3, cells := mc, slots := ms, locals := 64 } s m args below meth c H locs cells slots (vx_MQ below (QQ D AC A (fun v w9 => ∃ r9 : Int32, v = some (.int r9) ∧ Q r9 w9)) (XX D AC A (fun _ _ => False)) args s mc ms A) (F0 m 0 ls []) := by
  obtain ⟨hl0, hx, hb, hr, ht, hown, hlocks, hnm, hml, hex, hK, hA, hZ, hV⟩ := id C
  intro H locs cells slots ls hW hl hc hs
  unfold wp_Br_waysTo at hq
  refine lv_iconst (v := 0) hx hb d_Br_waysTo_0 (by decide) ?_
  refine lv_istore_n (i := 2) (lv' := [(2, .int (0 : Int32)), (0, va_rf (some x0)), (1, va_rf x1)]) hx hb d_Br_waysTo_1 rfl hl (by decide) (by simp [bw_cat, cat_i, cat_j]) (fun ls hl => ?_)
  refine lv_iconst (v := 0) hx hb d_Br_waysTo_2 (by decide) ?_
  refine lv_istore_n (i := 3) (lv' := [(3, .int (0 : Int32)), (2, .int (0 : Int32)), (0, va_rf (some x0)), (1, va_rf x1)]) hx hb d_Br_waysTo_3 rfl hl (by decide) (by simp [bw_cat, cat_i, cat_j]) (fun ls hl => ?_)
  obtain ⟨n1, hq⟩ := hq
  exact k_Br_waysTo_4 C  n1 _ _ _ _ _ hq _ _ _ _ _ hW (lv_sub hl [2, 3, 1, 0] rfl) hc hs
theorem ci_Br_waysTo : CI n_Br_waysTo b_Br_waysTo 5 (some .int) 1 := ⟨m_374, m_1, by decide, by decide, by decide +kernel⟩
theorem sel_Br_waysTo : Cond.selects "BeltRows" n_Br_waysTo n_Br_waysTo ∈ TBL := List.mem_filter.mpr ⟨List.mem_append_left _ (List.mem_map.mpr ⟨(n_Br_waysTo, 9), by decide +kernel, rfl⟩), rfl⟩
theorem c_Br_waysTo {l : Launch} {D : va_G} {AC : Nat → ClassId} {e0 mi : Nat} {Q : Int32 → Wd → Prop} (hl0 : l.stackTraces = false) (x0 : Nat) (x1 : Option Nat) (w : Wd) (hq : wp_Br_waysTo e0 mi x0 x1 w Q) : Ct l D AC e0 mi n_Br_waysTo (wy n_Br_waysTo b_Br_waysTo 5 (some .int)) 3 64 [va_rf (some x0), va_rf x1] w 0 0 (fun v w9 => ∃ r9 : Int32, v = some (.int r9) ∧ Q r9 w9) (fun _ _ => False) :=
  Ct.of hl0 (by decide) (by simp [lg_sl, bw_cat, cat_i, cat_j]) (fun p e s m args below meth c A ls C hW hl => k_Br_waysTo_0 C x0 x1 w hq s.heap [] 0 0 ls hW (by simpa [lv_args, bw_cat, cat_i, cat_j] using hl) (Nat.le_refl _) (Nat.le_refl _))
def wp_Br_count (e0 mi : Nat) (x0 : Nat) (x1 : Int32) (w : Wd) (Q : Int32 → Wd → Prop) : Prop :=
  (x1 = 0 → (bw_is w x0 5 ∧ (∃ a3 : Nat, (wR w x0 0) = some a3 ∧ (bw_is w a3 7 ∧ (wp_Al_size e0 mi a3 w (fun i11 w6 => Q i11 w6)))))) ∧ (x1 = 1 → (bw_is w x0 5 ∧ (∃ a13 : Nat, (wR w x0 1) = some a13 ∧ (bw_is w a13 7 ∧ (wp_Al_size e0 mi a13 w (fun i21 w16 => Q i21 w16)))))) ∧ (x1 = 2 → (bw_is w x0 5 ∧ (wp_Br_itemsOnBelts e0 mi x0 w (fun i29 w24 => Q i29 w24)))) ∧ (x1 = 3 → (bw_is w x0 5 ∧ (∃ a31 : Nat, (wR w x0 5) = some a31 ∧ (bw_is w a31 7 ∧ (wp_Al_size e0 mi a31 w (fun i39 w34 => Q i39 w34)))))) ∧ (x1 = 4 → (bw_is w x0 5 ∧ (∃ a41 : Nat, (wR w x0 3) = some a41 ∧ (bw_is w a41 7 ∧ (wp_Al_size e0 mi a41 w (fun i49 w44 => Q i49 w44)))))) ∧ (x1 = 5 → (bw_is w x0 5 ∧ (Q (wI w x0 7) w))) ∧ (x1 = 6 → (bw_is w x0 5 ∧ (∃ a52 : Nat, (wR w x0 2) = some a52 ∧ (bw_is w a52 7 ∧ (wp_Al_size e0 mi a52 w (fun i60 w55 => Q i60 w55)))))) ∧ (x1 = 7 → (bw_is w x0 5 ∧ (∃ a62 : Nat, (wR w x0 4) = some a62 ∧ (bw_is w a62 7 ∧ (wp_Al_size e0 mi a62 w (fun i70 w65 => Q i70 w65)))))) ∧ ((x1.toInt < 0 ∨ 7 < x1.toInt) → (Q (-1 : Int32) w))
set_option maxHeartbeats 4000000 in
set_option maxRecDepth 100000 in
theorem k_Br_count_0 {p : Program} {l : Launch} {e : Env} {s : State} {m : MethodId} {args : Array Value} {below : List Frame} {meth : Method} {c : Code} {D : va_G} {AC : Nat → ClassId} {e0 mi : Nat} {A : Nat → Prop} {mc ms : Nat} {Q : Int32 → Wd → Prop} (C : Cx p l s m args meth c D AC e0 mi A n_Br_count b_Br_count 2 (some .int)) (x0 : Nat) (x1 : Int32) (w : Wd) (hq : wp_Br_count e0 mi x0 x1 w Q) : ∀ (H : Heap) (locs : List Loc) (cells slots : Nat) (ls : Array Slot), HW D cls8 FTc AC A s.heap H locs w → lv_has ls 2 [(0, va_rf (some x0)), (1, .int x1)] → cells ≤ mc → slots ≤ ms → W p l e { frames := 4, cells := mc, slots := ms, locals := 86 } s m args below meth c H locs cells slots (vx_MQ below (QQ D AC A (fun v w9 => ∃ r9 : Int32, v = some (.int r9) ∧ Q r9 w9)) (XX D AC A (fun _ _ => False)) args s mc ms A) (F0 m 0 ls []) := by
  obtain ⟨hl0, hx, hb, hr, ht, hown, hlocks, hnm, hml, hex, hK, hA, hZ, hV⟩ := id C
  intro H locs cells slots ls hW hl hc hs
  unfold wp_Br_count at hq
  refine lv_iload_n hx hb d_Br_count_0 rfl (lv_at hl 1 rfl) ?_
  by_cases c1 : x1.toInt < 0 ∨ 7 < x1.toInt
  · have hq := hq.2.2.2.2.2.2.2.2 c1
    refine lv_tableOut (tgt := 106) hx hb d_Br_count_1 c1 (by decide) ?_
    refine lv_iconst (v := (-1)) hx hb d_Br_count_106 (by decide) ?_
    exact bw_iret C hW ⟨_, rfl, hq⟩ d_Br_count_107 hc hs
  · have c12 : x1 = 0 ∨ x1 = 1 ∨ x1 = 2 ∨ x1 = 3 ∨ x1 = 4 ∨ x1 = 5 ∨ x1 = 6 ∨ x1 = 7 := bw_sw8 c1
    rcases c12 with c1 | c1 | c1 | c1 | c1 | c1 | c1 | c1
    · have hq := hq.1 c1
      refine lv_tableIn (tgt := 48) hx hb d_Br_count_1 (by rw [c1]; decide) (by rw [c1]; decide) (by rw [c1]; rfl) (by decide) ?_
      refine bw_aload_n hx hb d_Br_count_48 rfl (lv_at hl 0 rfl) ?_
      obtain ⟨t2, hq⟩ := hq
      refine bw_getR hx hb ht in_Br hown hK hW rfl t2 (by decide) rfl 0 (by decide) rfl (ht _ m_59) (fun _ h => h) d_Br_count_49 ?_
      obtain ⟨a3, ea3, hq⟩ := hq
      obtain ⟨t4, hq⟩ := hq
      refine bw_callV (As := []) (rest := []) C hW ci_Al_size m_91 m_92 m_93 d_Br_count_52 ea3 t4 (by decide) rfl rfl rfl hl.1 (by decide) ⟨Nat.le_of_ble_eq_true rfl, Nat.le_of_ble_eq_true rfl⟩ ⟨hc, hs⟩ (c_Al_size hl0 _ _ hq) (fun _ _ _ _ _ _ h => h.elim) (fun v5 w6 H locs hv hW => ?_)
      obtain ⟨i11, rfl, hq⟩ := hv
      refine W.eq (g2 := F0 m 55 ls [.int i11]) rfl ?_
      exact bw_iret C hW ⟨_, rfl, hq⟩ d_Br_count_55 hc hs
    · have hq := hq.2.1 c1
      refine lv_tableIn (tgt := 56) hx hb d_Br_count_1 (by rw [c1]; decide) (by rw [c1]; decide) (by rw [c1]; rfl) (by decide) ?_
      refine bw_aload_n hx hb d_Br_count_56 rfl (lv_at hl 0 rfl) ?_
      obtain ⟨t12, hq⟩ := hq
      refine bw_getR hx hb ht in_Br hown hK hW rfl t12 (by decide) rfl 1 (by decide) rfl (ht _ m_60) (fun _ h => h) d_Br_count_57 ?_
      obtain ⟨a13, ea13, hq⟩ := hq
      obtain ⟨t14, hq⟩ := hq
      refine bw_callV (As := []) (rest := []) C hW ci_Al_size m_91 m_92 m_93 d_Br_count_60 ea13 t14 (by decide) rfl rfl rfl hl.1 (by decide) ⟨Nat.le_of_ble_eq_true rfl, Nat.le_of_ble_eq_true rfl⟩ ⟨hc, hs⟩ (c_Al_size hl0 _ _ hq) (fun _ _ _ _ _ _ h => h.elim) (fun v15 w16 H locs hv hW => ?_)
      obtain ⟨i21, rfl, hq⟩ := hv
      refine W.eq (g2 := F0 m 63 ls [.int i21]) rfl ?_
      exact bw_iret C hW ⟨_, rfl, hq⟩ d_Br_count_63 hc hs
    · have hq := hq.2.2.1 c1
      refine lv_tableIn (tgt := 64) hx hb d_Br_count_1 (by rw [c1]; decide) (by rw [c1]; decide) (by rw [c1]; rfl) (by decide) ?_
      refine bw_aload_n hx hb d_Br_count_64 rfl (lv_at hl 0 rfl) ?_
      obtain ⟨t22, hq⟩ := hq
      refine bw_callV (As := []) (rest := []) C hW ci_Br_itemsOnBelts m_95 m_97 sel_Br_itemsOnBelts d_Br_count_65 rfl t22 (by decide) rfl rfl rfl hl.1 (by decide) ⟨Nat.le_of_ble_eq_true rfl, Nat.le_of_ble_eq_true rfl⟩ ⟨hc, hs⟩ (c_Br_itemsOnBelts hl0 _ _ hq) (fun _ _ _ _ _ _ h => h.elim) (fun v23 w24 H locs hv hW => ?_)
      obtain ⟨i29, rfl, hq⟩ := hv
      refine W.eq (g2 := F0 m 68 ls [.int i29]) rfl ?_
      exact bw_iret C hW ⟨_, rfl, hq⟩ d_Br_count_68 hc hs
    · have hq := hq.2.2.2.1 c1
      refine lv_tableIn (tgt := 69) hx hb d_Br_count_1 (by rw [c1]; decide) (by rw [c1]; decide) (by rw [c1]; rfl) (by decide) ?_
      refine bw_aload_n hx hb d_Br_count_69 rfl (lv_at hl 0 rfl) ?_
      obtain ⟨t30, hq⟩ := hq
      refine bw_getR hx hb ht in_Br hown hK hW rfl t30 (by decide) rfl 5 (by decide) rfl (ht _ m_64) (fun _ h => h) d_Br_count_70 ?_
      obtain ⟨a31, ea31, hq⟩ := hq
      obtain ⟨t32, hq⟩ := hq
      refine bw_callV (As := []) (rest := []) C hW ci_Al_size m_91 m_92 m_93 d_Br_count_73 ea31 t32 (by decide) rfl rfl rfl hl.1 (by decide) ⟨Nat.le_of_ble_eq_true rfl, Nat.le_of_ble_eq_true rfl⟩ ⟨hc, hs⟩ (c_Al_size hl0 _ _ hq) (fun _ _ _ _ _ _ h => h.elim) (fun v33 w34 H locs hv hW => ?_)
      obtain ⟨i39, rfl, hq⟩ := hv
      refine W.eq (g2 := F0 m 76 ls [.int i39]) rfl ?_
      exact bw_iret C hW ⟨_, rfl, hq⟩ d_Br_count_76 hc hs
    · have hq := hq.2.2.2.2.1 c1
      refine lv_tableIn (tgt := 77) hx hb d_Br_count_1 (by rw [c1]; decide) (by rw [c1]; decide) (by rw [c1]; rfl) (by decide) ?_
      refine bw_aload_n hx hb d_Br_count_77 rfl (lv_at hl 0 rfl) ?_
      obtain ⟨t40, hq⟩ := hq
      refine bw_getR hx hb ht in_Br hown hK hW rfl t40 (by decide) rfl 3 (by decide) rfl (ht _ m_62) (fun _ h => h) d_Br_count_78 ?_
      obtain ⟨a41, ea41, hq⟩ := hq
      obtain ⟨t42, hq⟩ := hq
      refine bw_callV (As := []) (rest := []) C hW ci_Al_size m_91 m_92 m_93 d_Br_count_81 ea41 t42 (by decide) rfl rfl rfl hl.1 (by decide) ⟨Nat.le_of_ble_eq_true rfl, Nat.le_of_ble_eq_true rfl⟩ ⟨hc, hs⟩ (c_Al_size hl0 _ _ hq) (fun _ _ _ _ _ _ h => h.elim) (fun v43 w44 H locs hv hW => ?_)
      obtain ⟨i49, rfl, hq⟩ := hv
      refine W.eq (g2 := F0 m 84 ls [.int i49]) rfl ?_
      exact bw_iret C hW ⟨_, rfl, hq⟩ d_Br_count_84 hc hs
    · have hq := hq.2.2.2.2.2.1 c1
      refine lv_tableIn (tgt := 85) hx hb d_Br_count_1 (by rw [c1]; decide) (by rw [c1]; decide) (by rw [c1]; rfl) (by decide) ?_
      refine bw_aload_n hx hb d_Br_count_85 rfl (lv_at hl 0 rfl) ?_
      obtain ⟨t50, hq⟩ := hq
      refine bw_getI hx hb ht in_Br hown hK hW rfl t50 (by decide) rfl 7 (by decide) rfl (ht _ m_66) (fun _ h => h) d_Br_count_86 ?_
      exact bw_iret C hW ⟨_, rfl, hq⟩ d_Br_count_89 hc hs
    · have hq := hq.2.2.2.2.2.2.1 c1
      refine lv_tableIn (tgt := 90) hx hb d_Br_count_1 (by rw [c1]; decide) (by rw [c1]; decide) (by rw [c1]; rfl) (by decide) ?_
      refine bw_aload_n hx hb d_Br_count_90 rfl (lv_at hl 0 rfl) ?_
      obtain ⟨t51, hq⟩ := hq
      refine bw_getR hx hb ht in_Br hown hK hW rfl t51 (by decide) rfl 2 (by decide) rfl (ht _ m_61) (fun _ h => h) d_Br_count_91 ?_
      obtain ⟨a52, ea52, hq⟩ := hq
      obtain ⟨t53, hq⟩ := hq
      refine bw_callV (As := []) (rest := []) C hW ci_Al_size m_91 m_92 m_93 d_Br_count_94 ea52 t53 (by decide) rfl rfl rfl hl.1 (by decide) ⟨Nat.le_of_ble_eq_true rfl, Nat.le_of_ble_eq_true rfl⟩ ⟨hc, hs⟩ (c_Al_size hl0 _ _ hq) (fun _ _ _ _ _ _ h => h.elim) (fun v54 w55 H locs hv hW => ?_)
      obtain ⟨i60, rfl, hq⟩ := hv
      refine W.eq (g2 := F0 m 97 ls [.int i60]) rfl ?_
      exact bw_iret C hW ⟨_, rfl, hq⟩ d_Br_count_97 hc hs
    · have hq := hq.2.2.2.2.2.2.2.1 c1
      refine lv_tableIn (tgt := 98) hx hb d_Br_count_1 (by rw [c1]; decide) (by rw [c1]; decide) (by rw [c1]; rfl) (by decide) ?_
      refine bw_aload_n hx hb d_Br_count_98 rfl (lv_at hl 0 rfl) ?_
      obtain ⟨t61, hq⟩ := hq
      refine bw_getR hx hb ht in_Br hown hK hW rfl t61 (by decide) rfl 4 (by decide) rfl (ht _ m_63) (fun _ h => h) d_Br_count_99 ?_
      obtain ⟨a62, ea62, hq⟩ := hq
      obtain ⟨t63, hq⟩ := hq
      refine bw_callV (As := []) (rest := []) C hW ci_Al_size m_91 m_92 m_93 d_Br_count_102 ea62 t63 (by decide) rfl rfl rfl hl.1 (by decide) ⟨Nat.le_of_ble_eq_true rfl, Nat.le_of_ble_eq_true rfl⟩ ⟨hc, hs⟩ (c_Al_size hl0 _ _ hq) (fun _ _ _ _ _ _ h => h.elim) (fun v64 w65 H locs hv hW => ?_)
      obtain ⟨i70, rfl, hq⟩ := hv
      refine W.eq (g2 := F0 m 105 ls [.int i70]) rfl ?_
      exact bw_iret C hW ⟨_, rfl, hq⟩ d_Br_count_105 hc hs
theorem ci_Br_count : CI n_Br_count b_Br_count 2 (some .int) 1 := ⟨m_90, m_1, by decide, by decide, by decide +kernel⟩
theorem c_Br_count {l : Launch} {D : va_G} {AC : Nat → ClassId} {e0 mi : Nat} {Q : Int32 → Wd → Prop} (hl0 : l.stackTraces = false) (x0 : Nat) (x1 : Int32) (w : Wd) (hq : wp_Br_count e0 mi x0 x1 w Q) : Ct l D AC e0 mi n_Br_count (wy n_Br_count b_Br_count 2 (some .int)) 4 86 [va_rf (some x0), .int x1] w 0 0 (fun v w9 => ∃ r9 : Int32, v = some (.int r9) ∧ Q r9 w9) (fun _ _ => False) :=
  Ct.of hl0 (by decide) (by simp [lg_sl, bw_cat, cat_i, cat_j]) (fun p e s m args below meth c A ls C hW hl => k_Br_count_0 C x0 x1 w hq s.heap [] 0 0 ls hW (by simpa [lv_args, bw_cat, cat_i, cat_j] using hl) (Nat.le_refl _) (Nat.le_refl _))
def wb_Br_giverTo_88 (e0 mi : Nat) (Q : Option Nat → Wd → Prop) (x0 : Nat) (x1 : Option Nat) (x2 : Option Nat) (x3 : Option Nat) (x4 : Int32) (w : Wd) : Prop :=
  Q x2 w
set_option maxHeartbeats 4000000 in
set_option maxRecDepth 100000 in
theorem k_Br_giverTo_88 {p : Program} {l : Launch} {e : Env} {s : State} {m : MethodId} {args : Array Value} {below : List Frame} {meth : Method} {c : Code} {D : va_G} {AC : Nat → ClassId} {e0 mi : Nat} {A : Nat → Prop} {mc ms : Nat} {Q : Option Nat → Wd → Prop} (C : Cx p l s m args meth c D AC e0 mi A n_Br_giverTo b_Br_giverTo 7 (some (.object "BeltRows$Belt"))) (x0 : Nat) (x1 : Option Nat) (x2 : Option Nat) (x3 : Option Nat) (x4 : Int32) (w : Wd) (hq : wb_Br_giverTo_88 e0 mi Q x0 x1 x2 x3 x4 w) : ∀ (H : Heap) (locs : List Loc) (cells slots : Nat) (ls : Array Slot), HW D cls8 FTc AC A s.heap H locs w → lv_has ls 7 [(0, va_rf (some x0)), (1, va_rf x1), (2, va_rf x2), (3, va_rf x3), (4, .int x4)] → cells ≤ mc → slots ≤ ms → W p l e { frames := 3, cells := mc, slots := ms, locals := 64 } s m args below meth c H locs cells slots (vx_MQ below (QQ D AC A (fun v w9 => ∃ r9 : Option Nat, v = some (va_rf r9) ∧ Q r9 w9)) (XX D AC A (fun _ _ => False)) args s mc ms A) (F0 m 88 ls []) := by
  obtain ⟨hl0, hx, hb, hr, ht, hown, hlocks, hnm, hml, hex, hK, hA, hZ, hV⟩ := id C
  intro H locs cells slots ls hW hl hc hs
  unfold wb_Br_giverTo_88 at hq
  refine bw_aload_n hx hb d_Br_giverTo_88 rfl (lv_at hl 2 rfl) ?_
  exact bw_aret C (Or.inl ⟨_, rfl⟩) hW ⟨_, rfl, hq⟩ d_Br_giverTo_89 hc hs
def wb_Br_giverTo_82 (e0 mi : Nat) (K7 : Nat → Option Nat → Option Nat → Option Nat → Int32 → Wd → Prop) (Q : Option Nat → Wd → Prop) (x0 : Nat) (x1 : Option Nat) (x2 : Option Nat) (x3 : Option Nat) (x4 : Int32) (x5 : Option Nat) (x6 : Option Nat) (w : Wd) : Prop :=
  ∀ i1 : Int32, i1 = x4 + 1 → (K7 x0 x1 x2 x3 i1 w)
set_option maxHeartbeats 4000000 in
set_option maxRecDepth 100000 in
theorem k_Br_giverTo_82 {p : Program} {l : Launch} {e : Env} {s : State} {m : MethodId} {args : Array Value} {below : List Frame} {meth : Method} {c : Code} {D : va_G} {AC : Nat → ClassId} {e0 mi : Nat} {A : Nat → Prop} {mc ms : Nat} {K7 : Nat → Option Nat → Option Nat → Option Nat → Int32 → Wd → Prop} {Q : Option Nat → Wd → Prop} (C : Cx p l s m args meth c D AC e0 mi A n_Br_giverTo b_Br_giverTo 7 (some (.object "BeltRows$Belt"))) (hK7 : ∀ (x0 : Nat) (x1 : Option Nat) (x2 : Option Nat) (x3 : Option Nat) (x4 : Int32) (w : Wd), K7 x0 x1 x2 x3 x4 w → ∀ (H : Heap) (locs : List Loc) (cells slots : Nat) (ls : Array Slot), HW D cls8 FTc AC A s.heap H locs w → lv_has ls 7 [(0, va_rf (some x0)), (1, va_rf x1), (2, va_rf x2), (3, va_rf x3), (4, .int x4)] → cells ≤ mc → slots ≤ ms → W p l e { frames := 3, cells := mc, slots := ms, locals := 64 } s m args below meth c H locs cells slots (vx_MQ below (QQ D AC A (fun v w9 => ∃ r9 : Option Nat, v = some (va_rf r9) ∧ Q r9 w9)) (XX D AC A (fun _ _ => False)) args s mc ms A) (F0 m 7 ls [])) (x0 : Nat) (x1 : Option Nat) (x2 : Option Nat) (x3 : Option Nat) (x4 : Int32) (x5 : Option Nat) (x6 : Option Nat) (w : Wd) (hq : wb_Br_giverTo_82 e0 mi K7 Q x0 x1 x2 x3 x4 x5 x6 w) : ∀ (H : Heap) (locs : List Loc) (cells slots : Nat) (ls : Array Slot), HW D cls8 FTc AC A s.heap H locs w → lv_has ls 7 [(0, va_rf (some x0)), (1, va_rf x1), (2, va_rf x2), (3, va_rf x3), (4, .int x4), (5, va_rf x5), (6, va_rf x6)] → cells ≤ mc → slots ≤ ms → W p l e { frames := 3, cells := mc, slots := ms, locals := 64 } s m args below meth c H locs cells slots (vx_MQ below (QQ D AC A (fun v w9 => ∃ r9 : Option Nat, v = some (va_rf r9) ∧ Q r9 w9)) (XX D AC A (fun _ _ => False)) args s mc ms A) (F0 m 82 ls []) := by
  obtain ⟨hl0, hx, hb, hr, ht, hown, hlocks, hnm, hml, hex, hK, hA, hZ, hV⟩ := id C
  intro H locs cells slots ls hW hl hc hs
  unfold wb_Br_giverTo_82 at hq
  obtain ⟨i1, ei1⟩ : ∃ y : Int32, y = x4 + 1 := ⟨_, rfl⟩
  have hq := hq i1 ei1
  refine lv_iinc (v := i1) (lv' := [(4, .int i1), (0, va_rf (some x0)), (1, va_rf x1), (2, va_rf x2), (3, va_rf x3), (5, va_rf x5), (6, va_rf x6)]) hx hb d_Br_giverTo_82 hl (k := 4) rfl (by rw [ei1]; rfl) (by decide) (by simp [bw_cat, cat_i, cat_j]) (fun ls hl => ?_)
  refine lv_goto (tgt := 7) hx hb d_Br_giverTo_85 (by decide) ?_
  exact hK7 _ _ _ _ _ _ hq _ _ _ _ _ hW (lv_sub hl [1, 2, 3, 4, 0] rfl) hc hs
def wb_Br_giverTo_76 (e0 mi : Nat) (K7 : Nat → Option Nat → Option Nat → Option Nat → Int32 → Wd → Prop) (Q : Option Nat → Wd → Prop) (x0 : Nat) (x1 : Option Nat) (x2 : Option Nat) (x3 : Option Nat) (x4 : Int32) (x5 : Option Nat) (x6 : Option Nat) (w : Wd) : Prop :=
  wb_Br_giverTo_82 e0 mi K7 Q x0 x1 x5 x6 x4 x5 x6 w
set_option maxHeartbeats 4000000 in
set_option maxRecDepth 100000 in
theorem k_Br_giverTo_76 {p : Program} {l : Launch} {e : Env} {s : State} {m : MethodId} {args : Array Value} {below : List Frame} {meth : Method} {c : Code} {D : va_G} {AC : Nat → ClassId} {e0 mi : Nat} {A : Nat → Prop} {mc ms : Nat} {K7 : Nat → Option Nat → Option Nat → Option Nat → Int32 → Wd → Prop} {Q : Option Nat → Wd → Prop} (C : Cx p l s m args meth c D AC e0 mi A n_Br_giverTo b_Br_giverTo 7 (some (.object "BeltRows$Belt"))) (hK7 : ∀ (x0 : Nat) (x1 : Option Nat) (x2 : Option Nat) (x3 : Option Nat) (x4 : Int32) (w : Wd), K7 x0 x1 x2 x3 x4 w → ∀ (H : Heap) (locs : List Loc) (cells slots : Nat) (ls : Array Slot), HW D cls8 FTc AC A s.heap H locs w → lv_has ls 7 [(0, va_rf (some x0)), (1, va_rf x1), (2, va_rf x2), (3, va_rf x3), (4, .int x4)] → cells ≤ mc → slots ≤ ms → W p l e { frames := 3, cells := mc, slots := ms, locals := 64 } s m args below meth c H locs cells slots (vx_MQ below (QQ D AC A (fun v w9 => ∃ r9 : Option Nat, v = some (va_rf r9) ∧ Q r9 w9)) (XX D AC A (fun _ _ => False)) args s mc ms A) (F0 m 7 ls [])) (x0 : Nat) (x1 : Option Nat) (x2 : Option Nat) (x3 : Option Nat) (x4 : Int32) (x5 : Option Nat) (x6 : Option Nat) (w : Wd) (hq : wb_Br_giverTo_76 e0 mi K7 Q x0 x1 x2 x3 x4 x5 x6 w) : ∀ (H : Heap) (locs : List Loc) (cells slots : Nat) (ls : Array Slot), HW D cls8 FTc AC A s.heap H locs w → lv_has ls 7 [(0, va_rf (some x0)), (1, va_rf x1), (2, va_rf x2), (3, va_rf x3), (4, .int x4), (5, va_rf x5), (6, va_rf x6)] → cells ≤ mc → slots ≤ ms → W p l e { frames := 3, cells := mc, slots := ms, locals := 64 } s m args below meth c H locs cells slots (vx_MQ below (QQ D AC A (fun v w9 => ∃ r9 : Option Nat, v = some (va_rf r9) ∧ Q r9 w9)) (XX D AC A (fun _ _ => False)) args s mc ms A) (F0 m 76 ls []) := by
  obtain ⟨hl0, hx, hb, hr, ht, hown, hlocks, hnm, hml, hex, hK, hA, hZ, hV⟩ := id C
  intro H locs cells slots ls hW hl hc hs
  unfold wb_Br_giverTo_76 at hq
  refine bw_aload hx hb d_Br_giverTo_76 (lv_at hl 5 rfl) ?_
  refine bw_astore_n (i := 2) (lv' := [(2, va_rf x5), (0, va_rf (some x0)), (1, va_rf x1), (3, va_rf x3), (4, .int x4), (5, va_rf x5), (6, va_rf x6)]) hx hb d_Br_giverTo_78 rfl hl (by decide) (by simp [bw_cat, cat_i, cat_j]) (fun ls hl => ?_)
  refine bw_aload hx hb d_Br_giverTo_79 (lv_at hl 6 rfl) ?_
  refine bw_astore_n (i := 3) (lv' := [(3, va_rf x6), (2, va_rf x5), (0, va_rf (some x0)), (1, va_rf x1), (4, .int x4), (5, va_rf x5), (6, va_rf x6)]) hx hb d_Br_giverTo_81 rfl hl (by decide) (by simp [bw_cat, cat_i, cat_j]) (fun ls hl => ?_)
  exact k_Br_giverTo_82 C hK7 _ _ _ _ _ _ _ _ hq _ _ _ _ _ hW (lv_sub hl [2, 3, 1, 0, 4, 5, 6] rfl) hc hs
def wb_Br_giverTo_7 (e0 mi : Nat) (Q : Option Nat → Wd → Prop) : Nat → Nat → Option Nat → Option Nat → Option Nat → Int32 → Wd → Prop
  | 0, _, _, _, _, _, _ => False
  | n + 1, x0, x1, x2, x3, x4, w => ∃ a1 : Nat, x1 = some a1 ∧ (bw_is w a1 0 ∧ (((wI w a1 0) ≤ x4 → (wb_Br_giverTo_88 e0 mi Q x0 x1 x2 x3 x4 w)) ∧ (¬ (wI w a1 0) ≤ x4 → (bw_is w x0 5 ∧ (∃ a5 : Nat, (wR w x0 0) = some a5 ∧ (bw_is w a5 7 ∧ (wp_Al_size e0 mi a5 w (fun i13 w8 => (i13 ≤ x4 → (wb_Br_giverTo_88 e0 mi Q x0 x1 x2 x3 x4 w8)) ∧ (¬ i13 ≤ x4 → (bw_is w8 x0 5 ∧ (∃ a16 : Nat, (wR w8 x0 0) = some a16 ∧ (bw_is w8 a16 7 ∧ (wp_Al_get e0 mi a16 x4 w8 (fun r24 w19 => (∀ a26, r24 = some a26 → bw_is w19 a26 0) ∧ (∃ a27 : Nat, r24 = some a27 ∧ (bw_is w19 a27 0 ∧ (wp_Bt_wayInUse e0 mi a27 w19 (fun r35 w30 => (r35 = none → (wb_Br_giverTo_82 e0 mi (wb_Br_giverTo_7 e0 mi Q n) Q x0 x1 x2 x3 x4 r24 r35 w30)) ∧ (¬ r35 = none → (∃ a37 : Nat, r35 = some a37 ∧ (bw_is w30 a37 4 ∧ ((¬ (wR w30 a37 0) = x1 → (wb_Br_giverTo_82 e0 mi (wb_Br_giverTo_7 e0 mi Q n) Q x0 x1 x2 x3 x4 r24 r35 w30)) ∧ ((wR w30 a37 0) = x1 → ((x3 = none → (wb_Br_giverTo_76 e0 mi (wb_Br_giverTo_7 e0 mi Q n) Q x0 x1 x2 x3 x4 r24 r35 w30)) ∧ (¬ x3 = none → (wp_Wy_isDueBefore e0 mi a37 x3 w30 (fun i47 w42 => (i47 = 0 → (wb_Br_giverTo_82 e0 mi (wb_Br_giverTo_7 e0 mi Q n) Q x0 x1 x2 x3 x4 r24 r35 w42)) ∧ (¬ i47 = 0 → (wb_Br_giverTo_76 e0 mi (wb_Br_giverTo_7 e0 mi Q n) Q x0 x1 x2 x3 x4 r24 r35 w42)))))))))))))))))))))))))))))
set_option maxHeartbeats 4000000 in
set_option maxRecDepth 100000 in
theorem k_Br_giverTo_7 {p : Program} {l : Launch} {e : Env} {s : State} {m : MethodId} {args : Array Value} {below : List Frame} {meth : Method} {c : Code} {D : va_G} {AC : Nat → ClassId} {e0 mi : Nat} {A : Nat → Prop} {mc ms : Nat} {Q : Option Nat → Wd → Prop} (C : Cx p l s m args meth c D AC e0 mi A n_Br_giverTo b_Br_giverTo 7 (some (.object "BeltRows$Belt"))) : ∀ (n : Nat) (x0 : Nat) (x1 : Option Nat) (x2 : Option Nat) (x3 : Option Nat) (x4 : Int32) (w : Wd), wb_Br_giverTo_7 e0 mi Q n x0 x1 x2 x3 x4 w → ∀ (H : Heap) (locs : List Loc) (cells slots : Nat) (ls : Array Slot), HW D cls8 FTc AC A s.heap H locs w → lv_has ls 7 [(0, va_rf (some x0)), (1, va_rf x1), (2, va_rf x2), (3, va_rf x3), (4, .int x4)] → cells ≤ mc → slots ≤ ms → W p l e { frames := 3, cells := mc, slots := ms, locals := 64 } s m args below meth c H locs cells slots (vx_MQ below (QQ D AC A (fun v w9 => ∃ r9 : Option Nat, v = some (va_rf r9) ∧ Q r9 w9)) (XX D AC A (fun _ _ => False)) args s mc ms A) (F0 m 7 ls []) := by
  obtain ⟨hl0, hx, hb, hr, ht, hown, hlocks, hnm, hml, hex, hK, hA, hZ, hV⟩ := id C
  intro n
  induction n with
  | zero =>
    intro x0 x1 x2 x3 x4 w hq
    exact hq.elim
  | succ n ih =>
    intro x0 x1 x2 x3 x4 w hq H locs cells slots ls hW hl hc hs
    have hK7 := ih
    unfold wb_Br_giverTo_7 at hq
    refine lv_iload hx hb d_Br_giverTo_7 (lv_at hl 4 rfl) ?_
    refine bw_aload_n hx hb d_Br_giverTo_9 rfl (lv_at hl 1 rfl) ?_
    obtain ⟨a1, ea1, hq⟩ := hq
    obtain ⟨t2, hq⟩ := hq
    refine bw_getI hx hb ht in_Bt hown hK hW ea1 t2 (by decide) rfl 0 (by decide) rfl (ht _ m_238) (fun _ h => h) d_Br_giverTo_10 ?_
    refine lv_icmp_ge (tgt := 88) hx hb d_Br_giverTo_13 (by decide) (fun c3 => ?_) (fun c3 => ?_)
    · have hq := hq.1 c3
      exact k_Br_giverTo_88 C  _ _ _ _ _ _ hq _ _ _ _ _ hW (lv_sub hl [0, 1, 2, 3, 4] rfl) hc hs
    · have hq := hq.2 c3
      refine lv_iload hx hb d_Br_giverTo_16 (lv_at hl 4 rfl) ?_
      refine bw_aload_n hx hb d_Br_giverTo_18 rfl (lv_at hl 0 rfl) ?_
      obtain ⟨t4, hq⟩ := hq
      refine bw_getR hx hb ht in_Br hown hK hW rfl t4 (by decide) rfl 0 (by decide) rfl (ht _ m_59) (fun _ h => h) d_Br_giverTo_19 ?_
      obtain ⟨a5, ea5, hq⟩ := hq
      obtain ⟨t6, hq⟩ := hq
      refine bw_callV (As := []) (rest := [.int x4]) C hW ci_Al_size m_91 m_92 m_93 d_Br_giverTo_22 ea5 t6 (by decide) rfl rfl rfl hl.1 (by simp [bw_cat, cat_i, cat_j]) ⟨Nat.le_of_ble_eq_true rfl, Nat.le_of_ble_eq_true rfl⟩ ⟨hc, hs⟩ (c_Al_size hl0 _ _ hq) (fun _ _ _ _ _ _ h => h.elim) (fun v7 w8 H locs hv hW => ?_)
      obtain ⟨i13, rfl, hq⟩ := hv
      refine W.eq (g2 := F0 m 25 ls [.int i13, .int x4]) rfl ?_
      refine lv_icmp_ge (tgt := 88) hx hb d_Br_giverTo_25 (by decide) (fun c14 => ?_) (fun c14 => ?_)
      · have hq := hq.1 c14
        exact k_Br_giverTo_88 C  _ _ _ _ _ _ hq _ _ _ _ _ hW (lv_sub hl [0, 1, 2, 3, 4] rfl) hc hs
      · have hq := hq.2 c14
        refine bw_aload_n hx hb d_Br_giverTo_28 rfl (lv_at hl 0 rfl) ?_
        obtain ⟨t15, hq⟩ := hq
        refine bw_getR hx hb ht in_Br hown hK hW rfl t15 (by decide) rfl 0 (by decide) rfl (ht _ m_59) (fun _ h => h) d_Br_giverTo_29 ?_
        refine lv_iload hx hb d_Br_giverTo_32 (lv_at hl 4 rfl) ?_
        obtain ⟨a16, ea16, hq⟩ := hq
        obtain ⟨t17, hq⟩ := hq
        refine bw_callV (As := [.int x4]) (rest := []) C hW ci_Al_get m_99 m_100 m_101 d_Br_giverTo_34 ea16 t17 (by decide) rfl rfl rfl hl.1 (by decide) ⟨Nat.le_of_ble_eq_true rfl, Nat.le_of_ble_eq_true rfl⟩ ⟨hc, hs⟩ (c_Al_get hl0 _ _ _ hq) (fun _ _ _ _ _ _ h => h.elim) (fun v18 w19 H locs hv hW => ?_)
        obtain ⟨r24, rfl, hq⟩ := hv
        refine W.eq (g2 := F0 m 37 ls [va_rf r24]) rfl ?_
        obtain ⟨h25, hq⟩ := hq
        refine bw_cast C hW m_113 (cn := 0) rfl (by decide) (by decide +kernel) h25 d_Br_giverTo_37 ?_
        refine bw_astore (lv' := [(5, va_rf r24), (0, va_rf (some x0)), (1, va_rf x1), (2, va_rf x2), (3, va_rf x3), (4, .int x4)]) hx hb d_Br_giverTo_40 hl (by decide) (by simp [bw_cat, cat_i, cat_j]) (fun ls hl => ?_)
        refine bw_aload hx hb d_Br_giverTo_42 (lv_at hl 0 rfl) ?_
        obtain ⟨a27, ea27, hq⟩ := hq
        obtain ⟨t28, hq⟩ := hq
        refine bw_callV (As := []) (rest := []) C hW ci_Bt_wayInUse m_619 m_620 m_621 d_Br_giverTo_44 ea27 t28 (by decide) rfl rfl rfl hl.1 (by decide) ⟨Nat.le_of_ble_eq_true rfl, Nat.le_of_ble_eq_true rfl⟩ ⟨hc, hs⟩ (c_Bt_wayInUse hl0 _ _ hq) (fun _ _ _ _ _ _ h => h.elim) (fun v29 w30 H locs hv hW => ?_)
        obtain ⟨r35, rfl, hq⟩ := hv
        refine W.eq (g2 := F0 m 47 ls [va_rf r35]) rfl ?_
        refine bw_astore (lv' := [(6, va_rf r35), (5, va_rf r24), (0, va_rf (some x0)), (1, va_rf x1), (2, va_rf x2), (3, va_rf x3), (4, .int x4)]) hx hb d_Br_giverTo_47 hl (by decide) (by simp [bw_cat, cat_i, cat_j]) (fun ls hl => ?_)
        refine bw_aload hx hb d_Br_giverTo_49 (lv_at hl 0 rfl) ?_
        refine bw_ifnull (tgt := 82) hx hb d_Br_giverTo_51 (by decide) (fun c36 => ?_) (fun c36 => ?_)
        · have hq := hq.1 c36
          exact k_Br_giverTo_82 C hK7 _ _ _ _ _ _ _ _ hq _ _ _ _ _ hW (lv_sub hl [2, 3, 4, 5, 6, 1, 0] rfl) hc hs
        · have hq := hq.2 c36
          refine bw_aload hx hb d_Br_giverTo_54 (lv_at hl 0 rfl) ?_
          obtain ⟨a37, ea37, hq⟩ := hq
          obtain ⟨t38, hq⟩ := hq
          refine bw_getR hx hb ht in_Wy hown hK hW ea37 t38 (by decide) rfl 0 (by decide) rfl (ht _ m_225) (fun _ h => h) d_Br_giverTo_56 ?_
          refine bw_aload_n hx hb d_Br_giverTo_59 rfl (lv_at hl 3 rfl) ?_
          refine lv_acmp_ne (tgt := 82) hx hb d_Br_giverTo_60 (by decide) (fun c39 => ?_) (fun c39 => ?_)
          · have hq := hq.1 c39
            exact k_Br_giverTo_82 C hK7 _ _ _ _ _ _ _ _ hq _ _ _ _ _ hW (lv_sub hl [2, 3, 4, 5, 6, 1, 0] rfl) hc hs
          · have hq := hq.2 c39
            refine bw_aload_n hx hb d_Br_giverTo_63 rfl (lv_at hl 5 rfl) ?_
            refine bw_ifnull (tgt := 76) hx hb d_Br_giverTo_64 (by decide) (fun c40 => ?_) (fun c40 => ?_)
            · have hq := hq.1 c40
              exact k_Br_giverTo_76 C hK7 _ _ _ _ _ _ _ _ hq _ _ _ _ _ hW (lv_sub hl [2, 3, 4, 5, 6, 1, 0] rfl) hc hs
            · have hq := hq.2 c40
              refine bw_aload hx hb d_Br_giverTo_67 (lv_at hl 0 rfl) ?_
              refine bw_aload_n hx hb d_Br_giverTo_69 rfl (lv_at hl 5 rfl) ?_
              refine bw_callV (As := [va_rf x3]) (rest := []) C hW ci_Wy_isDueBefore m_625 m_626 m_627 d_Br_giverTo_70 ea37 t38 (by decide) rfl rfl rfl hl.1 (by decide) ⟨Nat.le_of_ble_eq_true rfl, Nat.le_of_ble_eq_true rfl⟩ ⟨hc, hs⟩ (c_Wy_isDueBefore hl0 _ _ _ hq) (fun _ _ _ _ _ _ h => h.elim) (fun v41 w42 H locs hv hW => ?_)
              obtain ⟨i47, rfl, hq⟩ := hv
              refine W.eq (g2 := F0 m 73 ls [.int i47]) rfl ?_
              refine lv_if_eq (tgt := 82) hx hb d_Br_giverTo_73 (by decide) (fun c48 => ?_) (fun c48 => ?_)
              · have hq := hq.1 c48
                exact k_Br_giverTo_82 C hK7 _ _ _ _ _ _ _ _ hq _ _ _ _ _ hW (lv_sub hl [2, 3, 4, 5, 6, 1, 0] rfl) hc hs
              · have hq := hq.2 c48
                exact k_Br_giverTo_76 C hK7 _ _ _ _ _ _ _ _ hq _ _ _ _ _ hW (lv_sub hl [2, 3, 4, 5, 6, 1, 0] rfl) hc hs
def wp_Br_giverTo (e0 mi : Nat) (x0 : Nat) (x1 : Option Nat) (w : Wd) (Q : Option Nat → Wd → Prop) : Prop :=
  ∃ n1 : Nat, wb_Br_giverTo_7 e0 mi Q n1 x0 x1 none none (0 : Int32) w
set_option maxHeartbeats 4000000 in
set_option maxRecDepth 100000 in
theorem k_Br_giverTo_0 {p : Program} {l : Launch} {e : Env} {s : State} {m : MethodId} {args : Array Value} {below : List Frame} {meth : Method} {c : Code} {D : va_G} {AC : Nat → ClassId} {e0 mi : Nat} {A : Nat → Prop} {mc ms : Nat} {Q : Option Nat → Wd → Prop} (C : Cx p l s m args meth c D AC e0 mi A n_Br_giverTo b_Br_giverTo 7 (some (.object "BeltRows$Belt"))) (x0 : Nat) (x1 : Option Nat) (w : Wd) (hq : wp_Br_giverTo e0 mi x0 x1 w Q) : ∀ (H : Heap) (locs : List Loc) (cells slots : Nat) (ls : Array Slot), HW D cls8 FTc AC A s.heap H locs w → lv_has ls 7 [(0, va_rf (some x0)), (1, va_rf x1)] → cells ≤ mc → slots ≤ ms → W p l e { frames := 3, cells := mc, slots := ms, locals := 64 } s m args below meth c H locs cells slots (vx_MQ below (QQ D AC A (fun v w9 => ∃ r9 : Option Nat, v = some (va_rf r9) ∧ Q r9 w9)) (XX D AC A (fun _ _ => False)) args s mc ms A) (F0 m 0 ls []) := by
  obtain ⟨hl0, hx, hb, hr, ht, hown, hlocks, hnm, hml, hex, hK, hA, hZ, hV⟩ := id C
  intro H locs cells slots ls hW hl hc hs
  unfold wp_Br_giverTo at hq
  refine bw_null hx hb d_Br_giverTo_0 ?_
  refine bw_astore_n (i := 2) (lv' := [(2, va_rf none), (0, va_rf (some x0)), (1, va_rf x1)]) hx hb d_Br_giverTo_1 rfl hl (by decide) (by simp [bw_cat, cat_i, cat_j]) (fun ls hl => ?_)
  refine bw_null hx hb d_Br_giverTo_2 ?_
  refine bw_astore_n (i := 3) (lv' := [(3, va_rf none), (2, va_rf none), (0, va_rf (some x0)), (1, va_rf x1)]) hx hb d_Br_giverTo_3 rfl hl (by decide) (by simp [bw_cat, cat_i, cat_j]) (fun ls hl => ?_)
  refine lv_iconst (v := 0) hx hb d_Br_giverTo_4 (by decide) ?_
  refine lv_istore (lv' := [(4, .int (0 : Int32)), (3, va_rf none), (2, va_rf none), (0, va_rf (some x0)), (1, va_rf x1)]) hx hb d_Br_giverTo_5 hl (by decide) (by simp [bw_cat, cat_i, cat_j]) (fun ls hl => ?_)
  obtain ⟨n1, hq⟩ := hq
  exact k_Br_giverTo_7 C  n1 _ _ _ _ _ _ hq _ _ _ _ _ hW (lv_sub hl [3, 4, 2, 1, 0] rfl) hc hs
theorem ci_Br_giverTo : CI n_Br_giverTo b_Br_giverTo 7 (some (.object "BeltRows$Belt")) 1 := ⟨m_618, m_1, by decide, by decide, by decide +kernel⟩
theorem sel_Br_giverTo : Cond.selects "BeltRows" n_Br_giverTo n_Br_giverTo ∈ TBL := List.mem_filter.mpr ⟨List.mem_append_left _ (List.mem_map.mpr ⟨(n_Br_giverTo, 9), by decide +kernel, rfl⟩), rfl⟩
theorem c_Br_giverTo {l : Launch} {D : va_G} {AC : Nat → ClassId} {e0 mi : Nat} {Q : Option Nat → Wd → Prop} (hl0 : l.stackTraces = false) (x0 : Nat) (x1 : Option Nat) (w : Wd) (hq : wp_Br_giverTo e0 mi x0 x1 w Q) : Ct l D AC e0 mi n_Br_giverTo (wy n_Br_giverTo b_Br_giverTo 7 (some (.object "BeltRows$Belt"))) 3 64 [va_rf (some x0), va_rf x1] w 0 0 (fun v w9 => ∃ r9 : Option Nat, v = some (va_rf r9) ∧ Q r9 w9) (fun _ _ => False) :=
  Ct.of hl0 (by decide) (by simp [lg_sl, bw_cat, cat_i, cat_j]) (fun p e s m args below meth c A ls C hW hl => k_Br_giverTo_0 C x0 x1 w hq s.heap [] 0 0 ls hW (by simpa [lv_args, bw_cat, cat_i, cat_j] using hl) (Nat.le_refl _) (Nat.le_refl _))
def wb_Br_tell_22 (e0 mi : Nat) (Q : Wd → Prop) (x0 : Nat) (x1 : Option Nat) (w : Wd) (nc ns : Nat) : Prop :=
  Q w
set_option maxHeartbeats 4000000 in
set_option maxRecDepth 100000 in
theorem k_Br_tell_22 {p : Program} {l : Launch} {e : Env} {s : State} {m : MethodId} {args : Array Value} {below : List Frame} {meth : Method} {c : Code} {D : va_G} {AC : Nat → ClassId} {e0 mi : Nat} {A : Nat → Prop} {mc ms : Nat} {Q : Wd → Prop} (C : Cx p l s m args meth c D AC e0 mi A n_Br_tell b_Br_tell 2 none) (x0 : Nat) (x1 : Option Nat) (w : Wd) (nc ns : Nat) (hq : wb_Br_tell_22 e0 mi Q x0 x1 w nc ns) : ∀ (H : Heap) (locs : List Loc) (cells slots : Nat) (ls : Array Slot), HW D cls8 FTc AC A s.heap H locs w → lv_has ls 2 [(0, va_rf (some x0)), (1, va_rf x1)] → cells + nc ≤ mc → slots + ns ≤ ms → W p l e { frames := 7, cells := mc, slots := ms, locals := 171 } s m args below meth c H locs cells slots (vx_MQ below (QQ D AC A (fun v w9 => v = none ∧ Q w9)) (XX D AC A (fun _ _ => False)) args s mc ms A) (F0 m 22 ls []) := by
  obtain ⟨hl0, hx, hb, hr, ht, hown, hlocks, hnm, hml, hex, hK, hA, hZ, hV⟩ := id C
  intro H locs cells slots ls hW hl hc hs
  unfold wb_Br_tell_22 at hq
  exact bw_vret C hW ⟨rfl, hq⟩ d_Br_tell_22 (Nat.le_trans (Nat.le_add_right _ _) hc) (Nat.le_trans (Nat.le_add_right _ _) hs)
def wp_Br_tell (e0 mi : Nat) (x0 : Nat) (x1 : Option Nat) (w : Wd) (nc ns : Nat) (Q : Wd → Prop) : Prop :=
  bw_is w x0 5 ∧ (∃ a2 : Nat, (wR w x0 3) = some a2 ∧ (bw_is w a2 7 ∧ (wp_Al_size e0 mi a2 w (fun i10 w5 => ((4096 : Int32) ≤ i10 → (wb_Br_tell_22 e0 mi Q x0 x1 w5 nc ns)) ∧ (¬ (4096 : Int32) ≤ i10 → (bw_is w5 x0 5 ∧ (∃ a13 : Nat, (wR w5 x0 3) = some a13 ∧ (bw_is w5 a13 7 ∧ (∃ k17 k18 : Nat, k17 ≤ nc ∧ k18 ≤ ns ∧ wp_Al_add e0 mi a13 x1 w5 k17 k18 (fun i21 w16 => wb_Br_tell_22 e0 mi Q x0 x1 w16 (nc - k17) (ns - k18)))))))))))
set_option maxHeartbeats 4000000 in
set_option maxRecDepth 100000 in
theorem k_Br_tell_0 {p : Program} {l : Launch} {e : Env} {s : State} {m : MethodId} {args : Array Value} {below : List Frame} {meth : Method} {c : Code} {D : va_G} {AC : Nat → ClassId} {e0 mi : Nat} {A : Nat → Prop} {mc ms : Nat} {Q : Wd → Prop} (C : Cx p l s m args meth c D AC e0 mi A n_Br_tell b_Br_tell 2 none) (x0 : Nat) (x1 : Option Nat) (w : Wd) (nc ns : Nat) (hq : wp_Br_tell e0 mi x0 x1 w nc ns Q) : ∀ (H : Heap) (locs : List Loc) (cells slots : Nat) (ls : Array Slot), HW D cls8 FTc AC A s.heap H locs w → lv_has ls 2 [(0, va_rf (some x0)), (1, va_rf x1)] → cells + nc ≤ mc → slots + ns ≤ ms → W p l e { frames := 7, cells := mc, slots := ms, locals := 171 } s m args below meth c H locs cells slots (vx_MQ below (QQ D AC A (fun v w9 => v = none ∧ Q w9)) (XX D AC A (fun _ _ => False)) args s mc ms A) (F0 m 0 ls []) := by
  obtain ⟨hl0, hx, hb, hr, ht, hown, hlocks, hnm, hml, hex, hK, hA, hZ, hV⟩ := id C
  intro H locs cells slots ls hW hl hc hs
  unfold wp_Br_tell at hq
  refine bw_aload_n hx hb d_Br_tell_0 rfl (lv_at hl 0 rfl) ?_
  obtain ⟨t1, hq⟩ := hq
  refine bw_getR hx hb ht in_Br hown hK hW rfl t1 (by decide) rfl 3 (by decide) rfl (ht _ m_62) (fun _ h => h) d_Br_tell_1 ?_
  obtain ⟨a2, ea2, hq⟩ := hq
  obtain ⟨t3, hq⟩ := hq
  refine bw_callV (As := []) (rest := []) C hW ci_Al_size m_91 m_92 m_93 d_Br_tell_4 ea2 t3 (by decide) rfl rfl rfl hl.1 (by decide) ⟨Nat.le_of_ble_eq_true rfl, Nat.le_of_ble_eq_true rfl⟩ ⟨Nat.le_trans (Nat.add_le_add_left (Nat.zero_le _) _) hc, Nat.le_trans (Nat.add_le_add_left (Nat.zero_le _) _) hs⟩ (c_Al_size hl0 _ _ hq) (fun _ _ _ _ _ _ h => h.elim) (fun v4 w5 H locs hv hW => ?_)
  obtain ⟨i10, rfl, hq⟩ := hv
  have hc := bw_bud0 hc
  have hs := bw_bud0 hs
  refine W.eq (g2 := F0 m 7 ls [.int i10]) rfl ?_
  refine lv_sipush (v := 4096) hx hb d_Br_tell_7 (by decide) ?_
  refine lv_icmp_ge (tgt := 22) hx hb d_Br_tell_10 (by decide) (fun c11 => ?_) (fun c11 => ?_)
  · have hq := hq.1 c11
    exact k_Br_tell_22 C  _ _ _ _ _ hq _ _ _ _ _ hW (lv_sub hl [0, 1] rfl) hc hs
  · have hq := hq.2 c11
    refine bw_aload_n hx hb d_Br_tell_13 rfl (lv_at hl 0 rfl) ?_
    obtain ⟨t12, hq⟩ := hq
    refine bw_getR hx hb ht in_Br hown hK hW rfl t12 (by decide) rfl 3 (by decide) rfl (ht _ m_62) (fun _ h => h) d_Br_tell_14 ?_
    refine bw_aload_n hx hb d_Br_tell_17 rfl (lv_at hl 1 rfl) ?_
    obtain ⟨a13, ea13, hq⟩ := hq
    obtain ⟨t14, hq⟩ := hq
    obtain ⟨k17, k18, h19, h20, hq⟩ := hq
    refine bw_callV (As := [va_rf x1]) (rest := []) C hW ci_Al_add m_274 m_275 m_276 d_Br_tell_18 ea13 t14 (by decide) rfl rfl rfl hl.1 (by decide) ⟨Nat.le_of_ble_eq_true rfl, Nat.le_of_ble_eq_true rfl⟩ ⟨Nat.le_trans (Nat.add_le_add_left h19 _) hc, Nat.le_trans (Nat.add_le_add_left h20 _) hs⟩ (c_Al_add hl0 _ _ _ _ _ hq) (fun _ _ _ _ _ _ h => h.elim) (fun v15 w16 H locs hv hW => ?_)
    obtain ⟨i21, rfl, hq⟩ := hv
    have hc := bw_bud hc h19
    have hs := bw_bud hs h20
    refine W.eq (g2 := F0 m 21 ls [.int i21]) rfl ?_
    refine lv_pop hx hb d_Br_tell_21 rfl ?_
    exact k_Br_tell_22 C  _ _ _ _ _ hq _ _ _ _ _ hW (lv_sub hl [0, 1] rfl) hc hs
theorem ci_Br_tell : CI n_Br_tell b_Br_tell 2 none 1 := ⟨m_554, m_1, by decide, by decide, by decide +kernel⟩
theorem sel_Br_tell : Cond.selects "BeltRows" n_Br_tell n_Br_tell ∈ TBL := List.mem_filter.mpr ⟨List.mem_append_left _ (List.mem_map.mpr ⟨(n_Br_tell, 9), by decide +kernel, rfl⟩), rfl⟩
theorem c_Br_tell {l : Launch} {D : va_G} {AC : Nat → ClassId} {e0 mi : Nat} {Q : Wd → Prop} (hl0 : l.stackTraces = false) (x0 : Nat) (x1 : Option Nat) (w : Wd) (nc ns : Nat) (hq : wp_Br_tell e0 mi x0 x1 w nc ns Q) : Ct l D AC e0 mi n_Br_tell (wy n_Br_tell b_Br_tell 2 none) 7 171 [va_rf (some x0), va_rf x1] w nc ns (fun v w9 => v = none ∧ Q w9) (fun _ _ => False) :=
  Ct.of hl0 (by decide) (by simp [lg_sl, bw_cat, cat_i, cat_j]) (fun p e s m args below meth c A ls C hW hl => k_Br_tell_0 C x0 x1 w nc ns hq s.heap [] 0 0 ls hW (by simpa [lv_args, bw_cat, cat_i, cat_j] using hl) (Nat.le_of_eq (Nat.zero_add _)) (Nat.le_of_eq (Nat.zero_add _)))
def wb_Br_tellReads_65 (e0 mi : Nat) (K12 : Nat → Int32 → Int32 → Int32 → Wd → Nat → Nat → Prop) (Q : Wd → Prop) (x0 : Nat) (x1 : Int32) (x2 : Int32) (x3 : Int32) (x4 : Option Nat) (w : Wd) (nc ns : Nat) : Prop :=
  ∀ i1 : Int32, i1 = x3 + 1 → (K12 x0 x1 x2 i1 w nc ns)
set_option maxHeartbeats 4000000 in
set_option maxRecDepth 100000 in
theorem k_Br_tellReads_65 {p : Program} {l : Launch} {e : Env} {s : State} {m : MethodId} {args : Array Value} {below : List Frame} {meth : Method} {c : Code} {D : va_G} {AC : Nat → ClassId} {e0 mi : Nat} {A : Nat → Prop} {mc ms : Nat} {K12 : Nat → Int32 → Int32 → Int32 → Wd → Nat → Nat → Prop} {Q : Wd → Prop} (C : Cx p l s m args meth c D AC e0 mi A n_Br_tellReads b_Br_tellReads 5 none) (hK12 : ∀ (x0 : Nat) (x1 : Int32) (x2 : Int32) (x3 : Int32) (w : Wd) (nc ns : Nat), K12 x0 x1 x2 x3 w nc ns → ∀ (H : Heap) (locs : List Loc) (cells slots : Nat) (ls : Array Slot), HW D cls8 FTc AC A s.heap H locs w → lv_has ls 5 [(0, va_rf (some x0)), (1, .int x1), (2, .int x2), (3, .int x3)] → cells + nc ≤ mc → slots + ns ≤ ms → W p l e { frames := 8, cells := mc, slots := ms, locals := 192 } s m args below meth c H locs cells slots (vx_MQ below (QQ D AC A (fun v w9 => v = none ∧ Q w9)) (XX D AC A (fun _ _ => False)) args s mc ms A) (F0 m 12 ls [])) (x0 : Nat) (x1 : Int32) (x2 : Int32) (x3 : Int32) (x4 : Option Nat) (w : Wd) (nc ns : Nat) (hq : wb_Br_tellReads_65 e0 mi K12 Q x0 x1 x2 x3 x4 w nc ns) : ∀ (H : Heap) (locs : List Loc) (cells slots : Nat) (ls : Array Slot), HW D cls8 FTc AC A s.heap H locs w → lv_has ls 5 [(0, va_rf (some x0)), (1, .int x1), (2, .int x2), (3, .int x3), (4, va_rf x4)] → cells + nc ≤ mc → slots + ns ≤ ms → W p l e { frames := 8, cells := mc, slots := ms, locals := 192 } s m args below meth c H locs cells slots (vx_MQ below (QQ D AC A (fun v w9 => v = none ∧ Q w9)) (XX D AC A (fun _ _ => False)) args s mc ms A) (F0 m 65 ls []) := by
  obtain ⟨hl0, hx, hb, hr, ht, hown, hlocks, hnm, hml, hex, hK, hA, hZ, hV⟩ := id C
  intro H locs cells slots ls hW hl hc hs
  unfold wb_Br_tellReads_65 at hq
  obtain ⟨i1, ei1⟩ : ∃ y : Int32, y = x3 + 1 := ⟨_, rfl⟩
  have hq := hq i1 ei1
  refine lv_iinc (v := i1) (lv' := [(3, .int i1), (0, va_rf (some x0)), (1, .int x1), (2, .int x2), (4, va_rf x4)]) hx hb d_Br_tellReads_65 hl (k := 3) rfl (by rw [ei1]; rfl) (by decide) (by simp [bw_cat, cat_i, cat_j]) (fun ls hl => ?_)
  refine lv_goto (tgt := 12) hx hb d_Br_tellReads_68 (by decide) ?_
  exact hK12 _ _ _ _ _ _ _ hq _ _ _ _ _ hW (lv_sub hl [1, 2, 3, 0] rfl) hc hs
def wb_Br_tellReads_75 (e0 mi : Nat) (Q : Wd → Prop) : Nat → Nat → Int32 → Int32 → Int32 → Wd → Nat → Nat → Prop
  | 0, _, _, _, _, _, _, _ => False
  | n + 1, x0, x1, x2, x3, w, nc, ns => (x3 < x2 → (Q w)) ∧ (¬ x3 < x2 → (bw_is w x0 5 ∧ (∃ a3 : Nat, (wR w x0 4) = some a3 ∧ (bw_is w a3 7 ∧ (wp_Al_remove e0 mi a3 x3 w (fun r11 w6 => ∀ i12 : Int32, i12 = x3 + (-1) → ((wb_Br_tellReads_75 e0 mi Q n) x0 x1 x2 i12 w6 nc ns)))))))
set_option maxHeartbeats 4000000 in
set_option maxRecDepth 100000 in
theorem k_Br_tellReads_75 {p : Program} {l : Launch} {e : Env} {s : State} {m : MethodId} {args : Array Value} {below : List Frame} {meth : Method} {c : Code} {D : va_G} {AC : Nat → ClassId} {e0 mi : Nat} {A : Nat → Prop} {mc ms : Nat} {Q : Wd → Prop} (C : Cx p l s m args meth c D AC e0 mi A n_Br_tellReads b_Br_tellReads 5 none) : ∀ (n : Nat) (x0 : Nat) (x1 : Int32) (x2 : Int32) (x3 : Int32) (w : Wd) (nc ns : Nat), wb_Br_tellReads_75 e0 mi Q n x0 x1 x2 x3 w nc ns → ∀ (H : Heap) (locs : List Loc) (cells slots : Nat) (ls : Array Slot), HW D cls8 FTc AC A s.heap H locs w → lv_has ls 5 [(0, va_rf (some x0)), (1, .int x1), (2, .int x2), (3, .int x3)] → cells + nc ≤ mc → slots + ns ≤ ms → W p l e { frames := 8, cells := mc, slots := ms, locals := 192 } s m args below meth c H locs cells slots (vx_MQ below (QQ D AC A (fun v w9 => v = none ∧ Q w9)) (XX D AC A (fun _ _ => False)) args s mc ms A) (F0 m 75 ls []) := by
  obtain ⟨hl0, hx, hb, hr, ht, hown, hlocks, hnm, hml, hex, hK, hA, hZ, hV⟩ := id C
  intro n
  induction n with
  | zero =>
    intro x0 x1 x2 x3 w nc ns hq
    exact hq.elim
  | succ n ih =>
    intro x0 x1 x2 x3 w nc ns hq H locs cells slots ls hW hl hc hs
    have hK75 := ih
    unfold wb_Br_tellReads_75 at hq
    refine lv_iload_n hx hb d_Br_tellReads_75 rfl (lv_at hl 3 rfl) ?_
    refine lv_iload_n hx hb d_Br_tellReads_76 rfl (lv_at hl 2 rfl) ?_
    refine lv_icmp_lt (tgt := 95) hx hb d_Br_tellReads_77 (by decide) (fun c1 => ?_) (fun c1 => ?_)
    · have hq := hq.1 c1
      exact bw_vret C hW ⟨rfl, hq⟩ d_Br_tellReads_95 (Nat.le_trans (Nat.le_add_right _ _) hc) (Nat.le_trans (Nat.le_add_right _ _) hs)
    · have hq := hq.2 c1
      refine bw_aload_n hx hb d_Br_tellReads_80 rfl (lv_at hl 0 rfl) ?_
      obtain ⟨t2, hq⟩ := hq
      refine bw_getR hx hb ht in_Br hown hK hW rfl t2 (by decide) rfl 4 (by decide) rfl (ht _ m_63) (fun _ h => h) d_Br_tellReads_81 ?_
      refine lv_iload_n hx hb d_Br_tellReads_84 rfl (lv_at hl 3 rfl) ?_
      obtain ⟨a3, ea3, hq⟩ := hq
      obtain ⟨t4, hq⟩ := hq
      refine bw_callV (As := [.int x3]) (rest := []) C hW ci_Al_remove m_559 m_560 m_561 d_Br_tellReads_85 ea3 t4 (by decide) rfl rfl rfl hl.1 (by decide) ⟨Nat.le_of_ble_eq_true rfl, Nat.le_of_ble_eq_true rfl⟩ ⟨Nat.le_trans (Nat.add_le_add_left (Nat.zero_le _) _) hc, Nat.le_trans (Nat.add_le_add_left (Nat.zero_le _) _) hs⟩ (c_Al_remove hl0 _ _ _ hq) (fun _ _ _ _ _ _ h => h.elim) (fun v5 w6 H locs hv hW => ?_)
      obtain ⟨r11, rfl, hq⟩ := hv
      have hc := bw_bud0 hc
      have hs := bw_bud0 hs
      refine W.eq (g2 := F0 m 88 ls [va_rf r11]) rfl ?_
      refine lv_pop hx hb d_Br_tellReads_88 (bw_cat _) ?_
      obtain ⟨i12, ei12⟩ : ∃ y : Int32, y = x3 + (-1) := ⟨_, rfl⟩
      have hq := hq i12 ei12
      refine lv_iinc (v := i12) (lv' := [(3, .int i12), (0, va_rf (some x0)), (1, .int x1), (2, .int x2)]) hx hb d_Br_tellReads_89 hl (k := 3) rfl (by rw [ei12]; rfl) (by decide) (by simp [bw_cat, cat_i, cat_j]) (fun ls hl => ?_)
      refine lv_goto (tgt := 75) hx hb d_Br_tellReads_92 (by decide) ?_
      exact hK75 _ _ _ _ _ _ _ hq _ _ _ _ _ hW (lv_sub hl [1, 2, 3, 0] rfl) hc hs
def wb_Br_tellReads_12 (e0 mi : Nat) (Q : Wd → Prop) : Nat → Nat → Int32 → Int32 → Int32 → Wd → Nat → Nat → Prop
  | 0, _, _, _, _, _, _, _ => False
  | n + 1, x0, x1, x2, x3, w, nc, ns => (x1 ≤ x3 → (∀ i2 : Int32, i2 = x1 - (1 : Int32) → (∃ n3 : Nat, wb_Br_tellReads_75 e0 mi Q n3 x0 x1 x2 i2 w nc ns))) ∧ (¬ x1 ≤ x3 → (bw_is w x0 5 ∧ (∃ a5 : Nat, (wR w x0 4) = some a5 ∧ (bw_is w a5 7 ∧ (wp_Al_get e0 mi a5 x3 w (fun r13 w8 => (∀ a15, r13 = some a15 → bw_is w8 a15 1) ∧ (∃ a16 : Nat, r13 = some a16 ∧ (bw_is w8 a16 1 ∧ (bw_is w8 x0 5 ∧ ((¬ (wI w8 a16 0) = (wI w8 x0 7) → (∃ a20 : Nat, (wR w8 x0 4) = some a20 ∧ (bw_is w8 a20 7 ∧ (wp_Al_set e0 mi a20 x2 r13 w8 (fun r28 w23 => ∀ i29 : Int32, i29 = x2 + 1 → (wb_Br_tellReads_65 e0 mi (wb_Br_tellReads_12 e0 mi Q n) Q x0 x1 i29 x3 r13 w23 nc ns)))))) ∧ ((wI w8 a16 0) = (wI w8 x0 7) → (∃ k32 k33 : Nat, k32 ≤ nc ∧ k33 ≤ ns ∧ wp_Br_tell e0 mi x0 r13 w8 k32 k33 (fun w31 => wb_Br_tellReads_65 e0 mi (wb_Br_tellReads_12 e0 mi Q n) Q x0 x1 x2 x3 r13 w31 (nc - k32) (ns - k33))))))))))))))
set_option maxHeartbeats 4000000 in
set_option maxRecDepth 100000 in
theorem k_Br_tellReads_12 {p : Program} {l : Launch} {e : Env} {s : State} {m : MethodId} {args : Array Value} {below : List Frame} {meth : Method} {c : Code} {D : va_G} {AC : Nat → ClassId} {e0 mi : Nat} {A : Nat → Prop} {mc ms : Nat} {Q : Wd → Prop} (C : Cx p l s m args meth c D AC e0 mi A n_Br_tellReads b_Br_tellReads 5 none) : ∀ (n : Nat) (x0 : Nat) (x1 : Int32) (x2 : Int32) (x3 : Int32) (w : Wd) (nc ns : Nat), wb_Br_tellReads_12 e0 mi Q n x0 x1 x2 x3 w nc ns → ∀ (H : Heap) (locs : List Loc) (cells slots : Nat) (ls : Array Slot), HW D cls8 FTc AC A s.heap H locs w → lv_has ls 5 [(0, va_rf (some x0)), (1, .int x1), (2, .int x2), (3, .int x3)] → cells + nc ≤ mc → slots + ns ≤ ms → W p l e { frames := 8, cells := mc, slots := ms, locals := 192 } s m args below meth c H locs cells slots (vx_MQ below (QQ D AC A (fun v w9 => v = none ∧ Q w9)) (XX D AC A (fun _ _ => False)) args s mc ms A) (F0 m 12 ls []) := by
  obtain ⟨hl0, hx, hb, hr, ht, hown, hlocks, hnm, hml, hex, hK, hA, hZ, hV⟩ := id C
  intro n
  induction n with
  | zero =>
    intro x0 x1 x2 x3 w nc ns hq
    exact hq.elim
  | succ n ih =>
    intro x0 x1 x2 x3 w nc ns hq H locs cells slots ls hW hl hc hs
    have hK12 := ih
    unfold wb_Br_tellReads_12 at hq
    refine lv_iload_n hx hb d_Br_tellReads_12 rfl (lv_at hl 3 rfl) ?_
    refine lv_iload_n hx hb d_Br_tellReads_13 rfl (lv_at hl 1 rfl) ?_
    refine lv_icmp_ge (tgt := 71) hx hb d_Br_tellReads_14 (by decide) (fun c1 => ?_) (fun c1 => ?_)
    · have hq := hq.1 c1
      refine lv_iload_n hx hb d_Br_tellReads_71 rfl (lv_at hl 1 rfl) ?_
      refine lv_iconst (v := 1) hx hb d_Br_tellReads_72 (by decide) ?_
      refine lv_isub hx hb d_Br_tellReads_73 ?_
      refine lv_topi (fun i2 ei2 => ?_)
      have hq := hq i2 ei2
      refine lv_istore_n (i := 3) (lv' := [(3, .int i2), (0, va_rf (some x0)), (1, .int x1), (2, .int x2)]) hx hb d_Br_tellReads_74 rfl hl (by decide) (by simp [bw_cat, cat_i, cat_j]) (fun ls hl => ?_)
      obtain ⟨n3, hq⟩ := hq
      exact k_Br_tellReads_75 C  n3 _ _ _ _ _ _ _ hq _ _ _ _ _ hW (lv_sub hl [1, 2, 3, 0] rfl) hc hs
    · have hq := hq.2 c1
      refine bw_aload_n hx hb d_Br_tellReads_17 rfl (lv_at hl 0 rfl) ?_
      obtain ⟨t4, hq⟩ := hq
      refine bw_getR hx hb ht in_Br hown hK hW rfl t4 (by decide) rfl 4 (by decide) rfl (ht _ m_63) (fun _ h => h) d_Br_tellReads_18 ?_
      refine lv_iload_n hx hb d_Br_tellReads_21 rfl (lv_at hl 3 rfl) ?_
      obtain ⟨a5, ea5, hq⟩ := hq
      obtain ⟨t6, hq⟩ := hq
      refine bw_callV (As := [.int x3]) (rest := []) C hW ci_Al_get m_99 m_100 m_101 d_Br_tellReads_22 ea5 t6 (by decide) rfl rfl rfl hl.1 (by decide) ⟨Nat.le_of_ble_eq_true rfl, Nat.le_of_ble_eq_true rfl⟩ ⟨Nat.le_trans (Nat.add_le_add_left (Nat.zero_le _) _) hc, Nat.le_trans (Nat.add_le_add_left (Nat.zero_le _) _) hs⟩ (c_Al_get hl0 _ _ _ hq) (fun _ _ _ _ _ _ h => h.elim) (fun v7 w8 H locs hv hW => ?_)
      obtain ⟨r13, rfl, hq⟩ := hv
      have hc := bw_bud0 hc
      have hs := bw_bud0 hs
      refine W.eq (g2 := F0 m 25 ls [va_rf r13]) rfl ?_
      obtain ⟨h14, hq⟩ := hq
      refine bw_cast C hW m_550 (cn := 1) rfl (by decide) (by decide +kernel) h14 d_Br_tellReads_25 ?_
      refine bw_astore (lv' := [(4, va_rf r13), (0, va_rf (some x0)), (1, .int x1), (2, .int x2), (3, .int x3)]) hx hb d_Br_tellReads_28 hl (by decide) (by simp [bw_cat, cat_i, cat_j]) (fun ls hl => ?_)
      refine bw_aload hx hb d_Br_tellReads_30 (lv_at hl 0 rfl) ?_
      obtain ⟨a16, ea16, hq⟩ := hq
      obtain ⟨t17, hq⟩ := hq
      refine bw_getI hx hb ht in_Ed hown hK hW ea16 t17 (by decide) rfl 0 (by decide) rfl (ht _ m_595) (fun _ h => h) d_Br_tellReads_32 ?_
      refine bw_aload_n hx hb d_Br_tellReads_35 rfl (lv_at hl 1 rfl) ?_
      obtain ⟨t18, hq⟩ := hq
      refine bw_getI hx hb ht in_Br hown hK hW rfl t18 (by decide) rfl 7 (by decide) rfl (ht _ m_66) (fun _ h => h) d_Br_tellReads_36 ?_
      refine lv_icmp_ne (tgt := 51) hx hb d_Br_tellReads_39 (by decide) (fun c19 => ?_) (fun c19 => ?_)
      · have hq := hq.1 c19
        refine bw_aload_n hx hb d_Br_tellReads_51 rfl (lv_at hl 1 rfl) ?_
        refine bw_getR hx hb ht in_Br hown hK hW rfl t18 (by decide) rfl 4 (by decide) rfl (ht _ m_63) (fun _ h => h) d_Br_tellReads_52 ?_
        refine lv_iload_n hx hb d_Br_tellReads_55 rfl (lv_at hl 3 rfl) ?_
        refine bw_aload hx hb d_Br_tellReads_56 (lv_at hl 0 rfl) ?_
        obtain ⟨a20, ea20, hq⟩ := hq
        obtain ⟨t21, hq⟩ := hq
        refine bw_callV (As := [.int x2, va_rf r13]) (rest := []) C hW ci_Al_set m_555 m_556 m_557 d_Br_tellReads_58 ea20 t21 (by decide) rfl rfl rfl hl.1 (by decide) ⟨Nat.le_of_ble_eq_true rfl, Nat.le_of_ble_eq_true rfl⟩ ⟨Nat.le_trans (Nat.add_le_add_left (Nat.zero_le _) _) hc, Nat.le_trans (Nat.add_le_add_left (Nat.zero_le _) _) hs⟩ (c_Al_set hl0 _ _ _ _ hq) (fun _ _ _ _ _ _ h => h.elim) (fun v22 w23 H locs hv hW => ?_)
        obtain ⟨r28, rfl, hq⟩ := hv
        have hc := bw_bud0 hc
        have hs := bw_bud0 hs
        refine W.eq (g2 := F0 m 61 ls [va_rf r28]) rfl ?_
        refine lv_pop hx hb d_Br_tellReads_61 (bw_cat _) ?_
        obtain ⟨i29, ei29⟩ : ∃ y : Int32, y = x2 + 1 := ⟨_, rfl⟩
        have hq := hq i29 ei29
        refine lv_iinc (v := i29) (lv' := [(2, .int i29), (4, va_rf r13), (0, va_rf (some x0)), (1, .int x1), (3, .int x3)]) hx hb d_Br_tellReads_62 hl (k := 3) rfl (by rw [ei29]; rfl) (by decide) (by simp [bw_cat, cat_i, cat_j]) (fun ls hl => ?_)
        exact k_Br_tellReads_65 C hK12 _ _ _ _ _ _ _ _ hq _ _ _ _ _ hW (lv_sub hl [2, 3, 0, 4, 1] rfl) hc hs
      · have hq := hq.2 c19
        refine bw_aload_n hx hb d_Br_tellReads_42 rfl (lv_at hl 1 rfl) ?_
        refine bw_aload hx hb d_Br_tellReads_43 (lv_at hl 0 rfl) ?_
        obtain ⟨k32, k33, h34, h35, hq⟩ := hq
        refine bw_callV (As := [va_rf r13]) (rest := []) C hW ci_Br_tell m_551 m_553 sel_Br_tell d_Br_tellReads_45 rfl t18 (by decide) rfl rfl rfl hl.1 (by decide) ⟨Nat.le_of_ble_eq_true rfl, Nat.le_of_ble_eq_true rfl⟩ ⟨Nat.le_trans (Nat.add_le_add_left h34 _) hc, Nat.le_trans (Nat.add_le_add_left h35 _) hs⟩ (c_Br_tell hl0 _ _ _ _ _ hq) (fun _ _ _ _ _ _ h => h.elim) (fun v30 w31 H locs hv hW => ?_)
        obtain ⟨rfl, hq⟩ := hv
        have hc := bw_bud hc h34
        have hs := bw_bud hs h35
        refine W.eq (g2 := F0 m 48 ls []) rfl ?_
        refine lv_goto (tgt := 65) hx hb d_Br_tellReads_48 (by decide) ?_
        exact k_Br_tellReads_65 C hK12 _ _ _ _ _ _ _ _ hq _ _ _ _ _ hW (lv_sub hl [1, 2, 3, 4, 0] rfl) hc hs
def wp_Br_tellReads (e0 mi : Nat) (x0 : Nat) (w : Wd) (nc ns : Nat) (Q : Wd → Prop) : Prop :=
  bw_is w x0 5 ∧ (∃ a2 : Nat, (wR w x0 4) = some a2 ∧ (bw_is w a2 7 ∧ (wp_Al_size e0 mi a2 w (fun i10 w5 => ∃ n11 : Nat, wb_Br_tellReads_12 e0 mi Q n11 x0 i10 (0 : Int32) (0 : Int32) w5 nc ns))))
set_option maxHeartbeats 4000000 in
set_option maxRecDepth 100000 in
theorem k_Br_tellReads_0 {p : Program} {l : Launch} {e : Env} {s : State} {m : MethodId} {args : Array Value} {below : List Frame} {meth : Method} {c : Code} {D : va_G} {AC : Nat → ClassId} {e0 mi : Nat} {A : Nat → Prop} {mc ms : Nat} {Q : Wd → Prop} (C : Cx p l s m args meth c D AC e0 mi A n_Br_tellReads b_Br_tellReads 5 none) (x0 : Nat) (w : Wd) (nc ns : Nat) (hq : wp_Br_tellReads e0 mi x0 w nc ns Q) : ∀ (H : Heap) (locs : List Loc) (cells slots : Nat) (ls : Array Slot), HW D cls8 FTc AC A s.heap H locs w → lv_has ls 5 [(0, va_rf (some x0))] → cells + nc ≤ mc → slots + ns ≤ ms → W p l e { frames := 8, cells := mc, slots := ms, locals := 192 } s m args below meth c H locs cells slots (vx_MQ below (QQ D AC A (fun v w9 => v = none ∧ Q w9)) (XX D AC A (fun _ _ => False)) args s mc ms A) (F0 m 0 ls []) := by
  obtain ⟨hl0, hx, hb, hr, ht, hown, hlocks, hnm, hml, hex, hK, hA, hZ, hV⟩ := id C
  intro H locs cells slots ls hW hl hc hs
  unfold wp_Br_tellReads at hq
  refine bw_aload_n hx hb d_Br_tellReads_0 rfl (lv_at hl 0 rfl) ?_
  obtain ⟨t1, hq⟩ := hq
  refine bw_getR hx hb ht in_Br hown hK hW rfl t1 (by decide) rfl 4 (by decide) rfl (ht _ m_63) (fun _ h => h) d_Br_tellReads_1 ?_
  obtain ⟨a2, ea2, hq⟩ := hq
  obtain ⟨t3, hq⟩ := hq
  refine bw_callV (As := []) (rest := []) C hW ci_Al_size m_91 m_92 m_93 d_Br_tellReads_4 ea2 t3 (by decide) rfl rfl rfl hl.1 (by decide) ⟨Nat.le_of_ble_eq_true rfl, Nat.le_of_ble_eq_true rfl⟩ ⟨Nat.le_trans (Nat.add_le_add_left (Nat.zero_le _) _) hc, Nat.le_trans (Nat.add_le_add_left (Nat.zero_le _) _) hs⟩ (c_Al_size hl0 _ _ hq) (fun _ _ _ _ _ _ h => h.elim) (fun v4 w5 H locs hv hW => ?_)
  obtain ⟨i10, rfl, hq⟩ := hv
  have hc := bw_bud0 hc
  have hs := bw_bud0 hs
  refine W.eq (g2 := F0 m 7 ls [.int i10]) rfl ?_
  refine lv_istore_n (i := 1) (lv' := [(1, .int i10), (0, va_rf (some x0))]) hx hb d_Br_tellReads_7 rfl hl (by decide) (by simp [bw_cat, cat_i, cat_j]) (fun ls hl => ?_)
  refine lv_iconst (v := 0) hx hb d_Br_tellReads_8 (by decide) ?_
  refine lv_istore_n (i := 2) (lv' := [(2, .int (0 : Int32)), (1, .int i10), (0, va_rf (some x0))]) hx hb d_Br_tellReads_9 rfl hl (by decide) (by simp [bw_cat, cat_i, cat_j]) (fun ls hl => ?_)
  refine lv_iconst (v := 0) hx hb d_Br_tellReads_10 (by decide) ?_
  refine lv_istore_n (i := 3) (lv' := [(3, .int (0 : Int32)), (2, .int (0 : Int32)), (1, .int i10), (0, va_rf (some x0))]) hx hb d_Br_tellReads_11 rfl hl (by decide) (by simp [bw_cat, cat_i, cat_j]) (fun ls hl => ?_)
  obtain ⟨n11, hq⟩ := hq
  exact k_Br_tellReads_12 C  n11 _ _ _ _ _ _ _ hq _ _ _ _ _ hW (lv_sub hl [3, 2, 1, 0] rfl) hc hs
theorem ci_Br_tellReads : CI n_Br_tellReads b_Br_tellReads 5 none 0 := ⟨m_549, m_1, by decide, by decide, by decide +kernel⟩
theorem sel_Br_tellReads : Cond.selects "BeltRows" n_Br_tellReads n_Br_tellReads ∈ TBL := List.mem_filter.mpr ⟨List.mem_append_left _ (List.mem_map.mpr ⟨(n_Br_tellReads, 9), by decide +kernel, rfl⟩), rfl⟩
theorem c_Br_tellReads {l : Launch} {D : va_G} {AC : Nat → ClassId} {e0 mi : Nat} {Q : Wd → Prop} (hl0 : l.stackTraces = false) (x0 : Nat) (w : Wd) (nc ns : Nat) (hq : wp_Br_tellReads e0 mi x0 w nc ns Q) : Ct l D AC e0 mi n_Br_tellReads (wy n_Br_tellReads b_Br_tellReads 5 none) 8 192 [va_rf (some x0)] w nc ns (fun v w9 => v = none ∧ Q w9) (fun _ _ => False) :=
  Ct.of hl0 (by decide) (by simp [lg_sl, bw_cat, cat_i, cat_j]) (fun p e s m args below meth c A ls C hW hl => k_Br_tellReads_0 C x0 w nc ns hq s.heap [] 0 0 ls hW (by simpa [lv_args, bw_cat, cat_i, cat_j] using hl) (Nat.le_of_eq (Nat.zero_add _)) (Nat.le_of_eq (Nat.zero_add _)))
def wb_Br_letOut_17 (e0 mi : Nat) (Q : Wd → Prop) (x0 : Nat) (x1 : Option Nat) (x2 : Option Nat) (w : Wd) (nc ns : Nat) : Prop :=
  Q w
set_option maxHeartbeats 4000000 in
set_option maxRecDepth 100000 in
theorem k_Br_letOut_17 {p : Program} {l : Launch} {e : Env} {s : State} {m : MethodId} {args : Array Value} {below : List Frame} {meth : Method} {c : Code} {D : va_G} {AC : Nat → ClassId} {e0 mi : Nat} {A : Nat → Prop} {mc ms : Nat} {Q : Wd → Prop} (C : Cx p l s m args meth c D AC e0 mi A n_Br_letOut b_Br_letOut 3 none) (x0 : Nat) (x1 : Option Nat) (x2 : Option Nat) (w : Wd) (nc ns : Nat) (hq : wb_Br_letOut_17 e0 mi Q x0 x1 x2 w nc ns) : ∀ (H : Heap) (locs : List Loc) (cells slots : Nat) (ls : Array Slot), HW D cls8 FTc AC A s.heap H locs w → lv_has ls 3 [(0, va_rf (some x0)), (1, va_rf x1), (2, va_rf x2)] → cells + nc ≤ mc → slots + ns ≤ ms → W p l e { frames := 8, cells := mc, slots := ms, locals := 192 } s m args below meth c H locs cells slots (vx_MQ below (QQ D AC A (fun v w9 => v = none ∧ Q w9)) (XX D AC A (fun _ _ => False)) args s mc ms A) (F0 m 17 ls []) := by
  obtain ⟨hl0, hx, hb, hr, ht, hown, hlocks, hnm, hml, hex, hK, hA, hZ, hV⟩ := id C
  intro H locs cells slots ls hW hl hc hs
  unfold wb_Br_letOut_17 at hq
  exact bw_vret C hW ⟨rfl, hq⟩ d_Br_letOut_17 (Nat.le_trans (Nat.le_add_right _ _) hc) (Nat.le_trans (Nat.le_add_right _ _) hs)
def wp_Br_letOut (e0 mi : Nat) (x0 : Nat) (x1 : Option Nat) (w : Wd) (nc ns : Nat) (Q : Wd → Prop) : Prop :=
  ∃ a1 : Nat, x1 = some a1 ∧ (bw_is w a1 0 ∧ (wp_Bt_itemAtEnd e0 mi a1 w (fun r9 w4 => (r9 = none → (wb_Br_letOut_17 e0 mi Q x0 x1 r9 w4 nc ns)) ∧ (¬ r9 = none → (bw_is w4 a1 0 ∧ (wp_Bt_wayOf e0 mi a1 r9 w4 (fun r18 w13 => (r18 = none → (∃ a20 : Nat, r9 = some a20 ∧ (bw_is w13 a20 2 ∧ (wp_It_leave e0 mi a20 (1 : Int32) w13 (fun w23 => bw_is w23 x0 5 ∧ (∃ a30 : Nat, (wR w23 x0 5) = some a30 ∧ (bw_is w23 a30 7 ∧ (∃ k34 k35 : Nat, k34 ≤ nc ∧ k35 ≤ ns ∧ wp_Al_add e0 mi a30 r9 w23 k34 k35 (fun i38 w33 => bw_is w33 x0 5 ∧ (bw_is w33 a20 2 ∧ (1 ≤ (nc - k34) ∧ 4 ≤ (ns - k35) ∧ ∀ q41 : Nat, q41 ∉ wL (sI w33 x0 8 ((wI w33 x0 8) + ((wI w33 x0 7) - (wI w33 a20 2)))) → (bw_is (bw_new (sI w33 x0 8 ((wI w33 x0 8) + ((wI w33 x0 7) - (wI w33 a20 2)))) q41 1 0) a1 0 ∧ (wp_Ed_init e0 mi q41 (wI (bw_new (sI w33 x0 8 ((wI w33 x0 8) + ((wI w33 x0 7) - (wI w33 a20 2)))) q41 1 0) x0 7) (1 : Int32) (wI (bw_new (sI w33 x0 8 ((wI w33 x0 8) + ((wI w33 x0 7) - (wI w33 a20 2)))) q41 1 0) a20 0) (wI (bw_new (sI w33 x0 8 ((wI w33 x0 8) + ((wI w33 x0 7) - (wI w33 a20 2)))) q41 1 0) a1 0) (bw_new (sI w33 x0 8 ((wI w33 x0 8) + ((wI w33 x0 7) - (wI w33 a20 2)))) q41 1 0) (fun w48 => bw_is w48 x0 5 ∧ (∃ k57 k58 : Nat, k57 ≤ ((nc - k34) - 1) ∧ k58 ≤ ((ns - k35) - 4) ∧ wp_Br_tell e0 mi x0 (some q41) w48 k57 k58 (fun w56 => Q w56)))))))))))))))) ∧ (¬ r18 = none → (wb_Br_letOut_17 e0 mi Q x0 x1 r9 w13 nc ns)))))))))
set_option maxHeartbeats 4000000 in
set_option maxRecDepth 100000 in
theorem k_Br_letOut_0 {p : Program} {l : Launch} {e : Env} {s : State} {m : MethodId} {args : Array Value} {below : List Frame} {meth : Method} {c : Code} {D : va_G} {AC : Nat → ClassId} {e0 mi : Nat} {A : Nat → Prop} {mc ms : Nat} {Q : Wd → Prop} (C : Cx p l s m args meth c D AC e0 mi A n_Br_letOut b_Br_letOut 3 none) (x0 : Nat) (x1 : Option Nat) (w : Wd) (nc ns : Nat) (hq : wp_Br_letOut e0 mi x0 x1 w nc ns Q) : ∀ (H : Heap) (locs : List Loc) (cells slots : Nat) (ls : Array Slot), HW D cls8 FTc AC A s.heap H locs w → lv_has ls 3 [(0, va_rf (some x0)), (1, va_rf x1)] → cells + nc ≤ mc → slots + ns ≤ ms → W p l e { frames := 8, cells := mc, slots := ms, locals := 192 } s m args below meth c H locs cells slots (vx_MQ below (QQ D AC A (fun v w9 => v = none ∧ Q w9)) (XX D AC A (fun _ _ => False)) args s mc ms A) (F0 m 0 ls []) := by
  obtain ⟨hl0, hx, hb, hr, ht, hown, hlocks, hnm, hml, hex, hK, hA, hZ, hV⟩ := id C
  intro H locs cells slots ls hW hl hc hs
  unfold wp_Br_letOut at hq
  refine bw_aload_n hx hb d_Br_letOut_0 rfl (lv_at hl 1 rfl) ?_
  obtain ⟨a1, ea1, hq⟩ := hq
  obtain ⟨t2, hq⟩ := hq
  refine bw_callV (As := []) (rest := []) C hW ci_Bt_itemAtEnd m_572 m_573 m_574 d_Br_letOut_1 ea1 t2 (by decide) rfl rfl rfl hl.1 (by decide) ⟨Nat.le_of_ble_eq_true rfl, Nat.le_of_ble_eq_true rfl⟩ ⟨Nat.le_trans (Nat.add_le_add_left (Nat.zero_le _) _) hc, Nat.le_trans (Nat.add_le_add_left (Nat.zero_le _) _) hs⟩ (c_Bt_itemAtEnd hl0 _ _ hq) (fun _ _ _ _ _ _ h => h.elim) (fun v3 w4 H locs hv hW => ?_)
  obtain ⟨r9, rfl, hq⟩ := hv
  have hc := bw_bud0 hc
  have hs := bw_bud0 hs
  refine W.eq (g2 := F0 m 4 ls [va_rf r9]) rfl ?_
  refine bw_astore_n (i := 2) (lv' := [(2, va_rf r9), (0, va_rf (some x0)), (1, va_rf x1)]) hx hb d_Br_letOut_4 rfl hl (by decide) (by simp [bw_cat, cat_i, cat_j]) (fun ls hl => ?_)
  refine bw_aload_n hx hb d_Br_letOut_5 rfl (lv_at hl 0 rfl) ?_
  refine bw_ifnull (tgt := 17) hx hb d_Br_letOut_6 (by decide) (fun c10 => ?_) (fun c10 => ?_)
  · have hq := hq.1 c10
    exact k_Br_letOut_17 C  _ _ _ _ _ _ hq _ _ _ _ _ hW (lv_sub hl [1, 2, 0] rfl) hc hs
  · have hq := hq.2 c10
    refine bw_aload_n hx hb d_Br_letOut_9 rfl (lv_at hl 2 rfl) ?_
    refine bw_aload_n hx hb d_Br_letOut_10 rfl (lv_at hl 0 rfl) ?_
    obtain ⟨t11, hq⟩ := hq
    refine bw_callV (As := [va_rf r9]) (rest := []) C hW ci_Bt_wayOf m_576 m_577 m_578 d_Br_letOut_11 ea1 t11 (by decide) rfl rfl rfl hl.1 (by decide) ⟨Nat.le_of_ble_eq_true rfl, Nat.le_of_ble_eq_true rfl⟩ ⟨Nat.le_trans (Nat.add_le_add_left (Nat.zero_le _) _) hc, Nat.le_trans (Nat.add_le_add_left (Nat.zero_le _) _) hs⟩ (c_Bt_wayOf hl0 _ _ _ hq) (fun _ _ _ _ _ _ h => h.elim) (fun v12 w13 H locs hv hW => ?_)
    obtain ⟨r18, rfl, hq⟩ := hv
    have hc := bw_bud0 hc
    have hs := bw_bud0 hs
    refine W.eq (g2 := F0 m 14 ls [va_rf r18]) rfl ?_
    refine bw_ifnull (tgt := 18) hx hb d_Br_letOut_14 (by decide) (fun c19 => ?_) (fun c19 => ?_)
    · have hq := hq.1 c19
      refine bw_aload_n hx hb d_Br_letOut_18 rfl (lv_at hl 0 rfl) ?_
      refine lv_iconst (v := 1) hx hb d_Br_letOut_19 (by decide) ?_
      obtain ⟨a20, ea20, hq⟩ := hq
      obtain ⟨t21, hq⟩ := hq
      refine bw_callV (As := [.int (1 : Int32)]) (rest := []) C hW ci_It_leave m_581 m_582 m_583 d_Br_letOut_20 ea20 t21 (by decide) rfl rfl rfl hl.1 (by decide) ⟨Nat.le_of_ble_eq_true rfl, Nat.le_of_ble_eq_true rfl⟩ ⟨Nat.le_trans (Nat.add_le_add_left (Nat.zero_le _) _) hc, Nat.le_trans (Nat.add_le_add_left (Nat.zero_le _) _) hs⟩ (c_It_leave hl0 _ _ _ hq) (fun _ _ _ _ _ _ h => h.elim) (fun v22 w23 H locs hv hW => ?_)
      obtain ⟨rfl, hq⟩ := hv
      have hc := bw_bud0 hc
      have hs := bw_bud0 hs
      refine W.eq (g2 := F0 m 23 ls []) rfl ?_
      refine bw_aload_n hx hb d_Br_letOut_23 rfl (lv_at hl 1 rfl) ?_
      obtain ⟨t29, hq⟩ := hq
      refine bw_getR hx hb ht in_Br hown hK hW rfl t29 (by decide) rfl 5 (by decide) rfl (ht _ m_64) (fun _ h => h) d_Br_letOut_24 ?_
      refine bw_aload_n hx hb d_Br_letOut_27 rfl (lv_at hl 0 rfl) ?_
      obtain ⟨a30, ea30, hq⟩ := hq
      obtain ⟨t31, hq⟩ := hq
      obtain ⟨k34, k35, h36, h37, hq⟩ := hq
      refine bw_callV (As := [va_rf r9]) (rest := []) C hW ci_Al_add m_274 m_275 m_276 d_Br_letOut_28 ea30 t31 (by decide) rfl rfl rfl hl.1 (by decide) ⟨Nat.le_of_ble_eq_true rfl, Nat.le_of_ble_eq_true rfl⟩ ⟨Nat.le_trans (Nat.add_le_add_left h36 _) hc, Nat.le_trans (Nat.add_le_add_left h37 _) hs⟩ (c_Al_add hl0 _ _ _ _ _ hq) (fun _ _ _ _ _ _ h => h.elim) (fun v32 w33 H locs hv hW => ?_)
      obtain ⟨i38, rfl, hq⟩ := hv
      have hc := bw_bud hc h36
      have hs := bw_bud hs h37
      refine W.eq (g2 := F0 m 31 ls [.int i38]) rfl ?_
      refine lv_pop hx hb d_Br_letOut_31 rfl ?_
      refine bw_aload_n hx hb d_Br_letOut_32 rfl (lv_at hl 1 rfl) ?_
      refine lv_dup hx hb d_Br_letOut_33 (bw_cat _) ?_
      obtain ⟨t39, hq⟩ := hq
      refine bw_getI hx hb ht in_Br hown hK hW rfl t39 (by decide) rfl 8 (by decide) rfl (ht _ m_67) (fun _ h => h) d_Br_letOut_34 ?_
      refine bw_aload_n hx hb d_Br_letOut_37 rfl (lv_at hl 1 rfl) ?_
      refine bw_getI hx hb ht in_Br hown hK hW rfl t39 (by decide) rfl 7 (by decide) rfl (ht _ m_66) (fun _ h => h) d_Br_letOut_38 ?_
      refine bw_aload_n hx hb d_Br_letOut_41 rfl (lv_at hl 0 rfl) ?_
      obtain ⟨t40, hq⟩ := hq
      refine bw_getI hx hb ht in_It hown hK hW ea20 t40 (by decide) rfl 2 (by decide) rfl (ht _ m_448) (fun _ h => h) d_Br_letOut_42 ?_
      refine lv_isub hx hb d_Br_letOut_45 ?_
      refine lv_iadd hx hb d_Br_letOut_46 ?_
      refine bw_putI hx hb ht in_Br y_Br yk_Br nm_Br hown hK hW rfl t39 (by decide) rfl 8 (by decide) rfl (ht _ m_67) (fun _ h => h) (Or.inl rfl) rfl rfl d_Br_letOut_47 (fun H locs hW => ?_)
      refine bw_aload_n hx hb d_Br_letOut_50 rfl (lv_at hl 1 rfl) ?_
      obtain ⟨h42, h43, hq⟩ := hq
      refine bw_mk (ci := 1) hx hb ht in_Ed y_Ed yk_Ed hown (ht _ m_550) (ht _ m_589) (ht _ m_23) hK hW hA (by decide) (by rfl) df_Ed (Nat.le_trans (Nat.add_le_add_left h42 _) hc) (Nat.le_trans (Nat.add_le_add_left h43 _) hs) d_Br_letOut_51 (fun q41 H n44 hW => ?_)
      have hq := hq q41 n44
      have hc := bw_bud hc h42
      have hs := bw_bud hs h43
      have t39 := bw_is_new (kd := 1) (n := 0) n44 t39
      have t40 := bw_is_new (kd := 1) (n := 0) n44 t40
      have t45 : bw_is (bw_new (sI w33 x0 8 ((wI w33 x0 8) + ((wI w33 x0 7) - (wI w33 a20 2)))) q41 1 0) q41 1 := bw_is_self _ _ _ _
      refine lv_dup hx hb d_Br_letOut_54 (bw_cat _) ?_
      refine bw_aload_n hx hb d_Br_letOut_55 rfl (lv_at hl 1 rfl) ?_
      refine bw_getI hx hb ht in_Br hown hK hW rfl t39 (by decide) rfl 7 (by decide) rfl (ht _ m_66) (fun _ h => h) d_Br_letOut_56 ?_
      refine lv_iconst (v := 1) hx hb d_Br_letOut_59 (by decide) ?_
      refine bw_aload_n hx hb d_Br_letOut_60 rfl (lv_at hl 0 rfl) ?_
      refine bw_getI hx hb ht in_It hown hK hW ea20 t40 (by decide) rfl 0 (by decide) rfl (ht _ m_444) (fun _ h => h) d_Br_letOut_61 ?_
      refine bw_aload_n hx hb d_Br_letOut_64 rfl (lv_at hl 2 rfl) ?_
      obtain ⟨t46, hq⟩ := hq
      refine bw_getI hx hb ht in_Bt hown hK hW ea1 t46 (by decide) rfl 0 (by decide) rfl (ht _ m_238) (fun _ h => h) d_Br_letOut_65 ?_
      refine bw_callI (As := [.int (wI (bw_new (sI w33 x0 8 ((wI w33 x0 8) + ((wI w33 x0 7) - (wI w33 a20 2)))) q41 1 0) x0 7), .int (1 : Int32), .int (wI (bw_new (sI w33 x0 8 ((wI w33 x0 8) + ((wI w33 x0 7) - (wI w33 a20 2)))) q41 1 0) a20 0), .int (wI (bw_new (sI w33 x0 8 ((wI w33 x0 8) + ((wI w33 x0 7) - (wI w33 a20 2)))) q41 1 0) a1 0)]) (rest := [va_rf (some q41), va_rf (some x0)]) C hW ci_Ed_init rfl m_590 m_591 d_Br_letOut_68 rfl rfl hl.1 (by simp [bw_cat, cat_i, cat_j]) ⟨Nat.le_of_ble_eq_true rfl, Nat.le_of_ble_eq_true rfl⟩ ⟨Nat.le_trans (Nat.add_le_add_left (Nat.zero_le _) _) hc, Nat.le_trans (Nat.add_le_add_left (Nat.zero_le _) _) hs⟩ (c_Ed_init hl0 _ _ _ _ _ _ hq) (fun v47 w48 H locs hv hW => ?_)
      obtain ⟨rfl, hq⟩ := hv
      have hc := bw_bud0 hc
      have hs := bw_bud0 hs
      refine W.eq (g2 := F0 m 71 ls [va_rf (some q41), va_rf (some x0)]) rfl ?_
      obtain ⟨t54, hq⟩ := hq
      obtain ⟨k57, k58, h59, h60, hq⟩ := hq
      refine bw_callV (As := [va_rf (some q41)]) (rest := []) C hW ci_Br_tell m_551 m_553 sel_Br_tell d_Br_letOut_71 rfl t54 (by decide) rfl rfl rfl hl.1 (by decide) ⟨Nat.le_of_ble_eq_true rfl, Nat.le_of_ble_eq_true rfl⟩ ⟨Nat.le_trans (Nat.add_le_add_left h59 _) hc, Nat.le_trans (Nat.add_le_add_left h60 _) hs⟩ (c_Br_tell hl0 _ _ _ _ _ hq) (fun _ _ _ _ _ _ h => h.elim) (fun v55 w56 H locs hv hW => ?_)
      obtain ⟨rfl, hq⟩ := hv
      have hc := bw_bud hc h59
      have hs := bw_bud hs h60
      refine W.eq (g2 := F0 m 74 ls []) rfl ?_
      exact bw_vret C hW ⟨rfl, hq⟩ d_Br_letOut_74 (Nat.le_trans (Nat.le_add_right _ _) hc) (Nat.le_trans (Nat.le_add_right _ _) hs)
    · have hq := hq.2 c19
      exact k_Br_letOut_17 C  _ _ _ _ _ _ hq _ _ _ _ _ hW (lv_sub hl [1, 2, 0] rfl) hc hs
theorem ci_Br_letOut : CI n_Br_letOut b_Br_letOut 3 none 1 := ⟨m_571, m_1, by decide, by decide, by decide +kernel⟩
theorem sel_Br_letOut : Cond.selects "BeltRows" n_Br_letOut n_Br_letOut ∈ TBL := List.mem_filter.mpr ⟨List.mem_append_left _ (List.mem_map.mpr ⟨(n_Br_letOut, 9), by decide +kernel, rfl⟩), rfl⟩
theorem c_Br_letOut {l : Launch} {D : va_G} {AC : Nat → ClassId} {e0 mi : Nat} {Q : Wd → Prop} (hl0 : l.stackTraces = false) (x0 : Nat) (x1 : Option Nat) (w : Wd) (nc ns : Nat) (hq : wp_Br_letOut e0 mi x0 x1 w nc ns Q) : Ct l D AC e0 mi n_Br_letOut (wy n_Br_letOut b_Br_letOut 3 none) 8 192 [va_rf (some x0), va_rf x1] w nc ns (fun v w9 => v = none ∧ Q w9) (fun _ _ => False) :=
  Ct.of hl0 (by decide) (by simp [lg_sl, bw_cat, cat_i, cat_j]) (fun p e s m args below meth c A ls C hW hl => k_Br_letOut_0 C x0 x1 w nc ns hq s.heap [] 0 0 ls hW (by simpa [lv_args, bw_cat, cat_i, cat_j] using hl) (Nat.le_of_eq (Nat.zero_add _)) (Nat.le_of_eq (Nat.zero_add _)))
def wb_Br_passOnTo_41 (e0 mi : Nat) (Q : Wd → Prop) (x0 : Nat) (x1 : Option Nat) (x2 : Option Nat) (x3 : Option Nat) (z0 : Option Nat) (w : Wd) (nc ns : Nat) : Prop :=
  (¬ z0 = none → (∃ a2 : Nat, z0 = some a2 ∧ (bw_is w a2 4 ∧ (∃ a4 : Nat, x2 = some a4 ∧ (bw_is (sI w a2 2 ((wI w a2 2) + (1 : Int32))) a4 0 ∧ (wp_Bt_letGo e0 mi a4 x3 (sI w a2 2 ((wI w a2 2) + (1 : Int32))) (fun w7 => ∃ a13 : Nat, x1 = some a13 ∧ (bw_is w7 a13 0 ∧ (wp_Bt_takeOn e0 mi a13 x3 w7 (fun w16 => 1 ≤ nc ∧ 4 ≤ ns ∧ ∀ q22 : Nat, q22 ∉ wL w16 → (bw_is (bw_new w16 q22 1 0) x0 5 ∧ (∃ a28 : Nat, x3 = some a28 ∧ (bw_is (bw_new w16 q22 1 0) a28 2 ∧ (bw_is (bw_new w16 q22 1 0) a13 0 ∧ (wp_Ed_init e0 mi q22 (wI (bw_new w16 q22 1 0) x0 7) (2 : Int32) (wI (bw_new w16 q22 1 0) a28 0) (wI (bw_new w16 q22 1 0) a13 0) (bw_new w16 q22 1 0) (fun w32 => bw_is w32 x0 5 ∧ (∃ k41 k42 : Nat, k41 ≤ (nc - 1) ∧ k42 ≤ (ns - 4) ∧ wp_Br_tell e0 mi x0 (some q22) w32 k41 k42 (fun w40 => Q w40)))))))))))))))))) ∧ (z0 = none → (Q w))
set_option maxHeartbeats 4000000 in
set_option maxRecDepth 100000 in
theorem k_Br_passOnTo_41 {p : Program} {l : Launch} {e : Env} {s : State} {m : MethodId} {args : Array Value} {below : List Frame} {meth : Method} {c : Code} {D : va_G} {AC : Nat → ClassId} {e0 mi : Nat} {A : Nat → Prop} {mc ms : Nat} {Q : Wd → Prop} (C : Cx p l s m args meth c D AC e0 mi A n_Br_passOnTo b_Br_passOnTo 5 none) (x0 : Nat) (x1 : Option Nat) (x2 : Option Nat) (x3 : Option Nat) (z0 : Option Nat) (w : Wd) (nc ns : Nat) (hq : wb_Br_passOnTo_41 e0 mi Q x0 x1 x2 x3 z0 w nc ns) : ∀ (H : Heap) (locs : List Loc) (cells slots : Nat) (ls : Array Slot), HW D cls8 FTc AC A s.heap H locs w → lv_has ls 5 [(0, va_rf (some x0)), (1, va_rf x1), (2, va_rf x2), (3, va_rf x3)] → cells + nc ≤ mc → slots + ns ≤ ms → W p l e { frames := 8, cells := mc, slots := ms, locals := 192 } s m args below meth c H locs cells slots (vx_MQ below (QQ D AC A (fun v w9 => v = none ∧ Q w9)) (XX D AC A (fun _ _ => False)) args s mc ms A) (F0 m 41 ls [va_rf z0]) := by
  obtain ⟨hl0, hx, hb, hr, ht, hown, hlocks, hnm, hml, hex, hK, hA, hZ, hV⟩ := id C
  intro H locs cells slots ls hW hl hc hs
  unfold wb_Br_passOnTo_41 at hq
  refine bw_astore (lv' := [(4, va_rf z0), (0, va_rf (some x0)), (1, va_rf x1), (2, va_rf x2), (3, va_rf x3)]) hx hb d_Br_passOnTo_41 hl (by decide) (by simp [bw_cat, cat_i, cat_j]) (fun ls hl => ?_)
  refine bw_aload hx hb d_Br_passOnTo_43 (lv_at hl 0 rfl) ?_
  refine bw_ifnonnull (tgt := 49) hx hb d_Br_passOnTo_45 (by decide) (fun c1 => ?_) (fun c1 => ?_)
  · have hq := hq.1 c1
    refine bw_aload hx hb d_Br_passOnTo_49 (lv_at hl 0 rfl) ?_
    refine lv_dup hx hb d_Br_passOnTo_51 (bw_cat _) ?_
    obtain ⟨a2, ea2, hq⟩ := hq
    obtain ⟨t3, hq⟩ := hq
    refine bw_getI hx hb ht in_Wy hown hK hW ea2 t3 (by decide) rfl 2 (by decide) rfl (ht _ m_228) (fun _ h => h) d_Br_passOnTo_52 ?_
    refine lv_iconst (v := 1) hx hb d_Br_passOnTo_55 (by decide) ?_
    refine lv_iadd hx hb d_Br_passOnTo_56 ?_
    refine bw_putI hx hb ht in_Wy y_Wy yk_Wy nm_Wy hown hK hW ea2 t3 (by decide) rfl 2 (by decide) rfl (ht _ m_228) (fun _ h => h) (Or.inl rfl) rfl rfl d_Br_passOnTo_57 (fun H locs hW => ?_)
    refine bw_aload_n hx hb d_Br_passOnTo_60 rfl (lv_at hl 3 rfl) ?_
    refine bw_aload_n hx hb d_Br_passOnTo_61 rfl (lv_at hl 4 rfl) ?_
    obtain ⟨a4, ea4, hq⟩ := hq
    obtain ⟨t5, hq⟩ := hq
    refine bw_callV (As := [va_rf x3]) (rest := []) C hW ci_Bt_letGo m_629 m_586 m_587 d_Br_passOnTo_62 ea4 t5 (by decide) rfl rfl rfl hl.1 (by decide) ⟨Nat.le_of_ble_eq_true rfl, Nat.le_of_ble_eq_true rfl⟩ ⟨Nat.le_trans (Nat.add_le_add_left (Nat.zero_le _) _) hc, Nat.le_trans (Nat.add_le_add_left (Nat.zero_le _) _) hs⟩ (c_Bt_letGo hl0 _ _ _ hq) (fun _ _ _ _ _ _ h => h.elim) (fun v6 w7 H locs hv hW => ?_)
    obtain ⟨rfl, hq⟩ := hv
    have hc := bw_bud0 hc
    have hs := bw_bud0 hs
    refine W.eq (g2 := F0 m 65 ls []) rfl ?_
    refine bw_aload_n hx hb d_Br_passOnTo_65 rfl (lv_at hl 2 rfl) ?_
    refine bw_aload_n hx hb d_Br_passOnTo_66 rfl (lv_at hl 4 rfl) ?_
    obtain ⟨a13, ea13, hq⟩ := hq
    obtain ⟨t14, hq⟩ := hq
    refine bw_callV (As := [va_rf x3]) (rest := []) C hW ci_Bt_takeOn m_491 m_492 m_493 d_Br_passOnTo_67 ea13 t14 (by decide) rfl rfl rfl hl.1 (by decide) ⟨Nat.le_of_ble_eq_true rfl, Nat.le_of_ble_eq_true rfl⟩ ⟨Nat.le_trans (Nat.add_le_add_left (Nat.zero_le _) _) hc, Nat.le_trans (Nat.add_le_add_left (Nat.zero_le _) _) hs⟩ (c_Bt_takeOn hl0 _ _ _ hq) (fun _ _ _ _ _ _ h => h.elim) (fun v15 w16 H locs hv hW => ?_)
    obtain ⟨rfl, hq⟩ := hv
    have hc := bw_bud0 hc
    have hs := bw_bud0 hs
    refine W.eq (g2 := F0 m 70 ls []) rfl ?_
    refine bw_aload_n hx hb d_Br_passOnTo_70 rfl (lv_at hl 1 rfl) ?_
    obtain ⟨h23, h24, hq⟩ := hq
    refine bw_mk (ci := 1) hx hb ht in_Ed y_Ed yk_Ed hown (ht _ m_550) (ht _ m_589) (ht _ m_23) hK hW hA (by decide) (by rfl) df_Ed (Nat.le_trans (Nat.add_le_add_left h23 _) hc) (Nat.le_trans (Nat.add_le_add_left h24 _) hs) d_Br_passOnTo_71 (fun q22 H n25 hW => ?_)
    have hq := hq q22 n25
    have hc := bw_bud hc h23
    have hs := bw_bud hs h24
    have t26 : bw_is (bw_new w16 q22 1 0) q22 1 := bw_is_self _ _ _ _
    refine lv_dup hx hb d_Br_passOnTo_74 (bw_cat _) ?_
    refine bw_aload_n hx hb d_Br_passOnTo_75 rfl (lv_at hl 1 rfl) ?_
    obtain ⟨t27, hq⟩ := hq
    refine bw_getI hx hb ht in_Br hown hK hW rfl t27 (by decide) rfl 7 (by decide) rfl (ht _ m_66) (fun _ h => h) d_Br_passOnTo_76 ?_
    refine lv_iconst (v := 2) hx hb d_Br_passOnTo_79 (by decide) ?_
    refine bw_aload_n hx hb d_Br_passOnTo_80 rfl (lv_at hl 4 rfl) ?_
    obtain ⟨a28, ea28, hq⟩ := hq
    obtain ⟨t29, hq⟩ := hq
    refine bw_getI hx hb ht in_It hown hK hW ea28 t29 (by decide) rfl 0 (by decide) rfl (ht _ m_444) (fun _ h => h) d_Br_passOnTo_81 ?_
    refine bw_aload_n hx hb d_Br_passOnTo_84 rfl (lv_at hl 2 rfl) ?_
    obtain ⟨t30, hq⟩ := hq
    refine bw_getI hx hb ht in_Bt hown hK hW ea13 t30 (by decide) rfl 0 (by decide) rfl (ht _ m_238) (fun _ h => h) d_Br_passOnTo_85 ?_
    refine bw_callI (As := [.int (wI (bw_new w16 q22 1 0) x0 7), .int (2 : Int32), .int (wI (bw_new w16 q22 1 0) a28 0), .int (wI (bw_new w16 q22 1 0) a13 0)]) (rest := [va_rf (some q22), va_rf (some x0)]) C hW ci_Ed_init rfl m_590 m_591 d_Br_passOnTo_88 rfl rfl hl.1 (by simp [bw_cat, cat_i, cat_j]) ⟨Nat.le_of_ble_eq_true rfl, Nat.le_of_ble_eq_true rfl⟩ ⟨Nat.le_trans (Nat.add_le_add_left (Nat.zero_le _) _) hc, Nat.le_trans (Nat.add_le_add_left (Nat.zero_le _) _) hs⟩ (c_Ed_init hl0 _ _ _ _ _ _ hq) (fun v31 w32 H locs hv hW => ?_)
    obtain ⟨rfl, hq⟩ := hv
    have hc := bw_bud0 hc
    have hs := bw_bud0 hs
    refine W.eq (g2 := F0 m 91 ls [va_rf (some q22), va_rf (some x0)]) rfl ?_
    obtain ⟨t38, hq⟩ := hq
    obtain ⟨k41, k42, h43, h44, hq⟩ := hq
    refine bw_callV (As := [va_rf (some q22)]) (rest := []) C hW ci_Br_tell m_551 m_553 sel_Br_tell d_Br_passOnTo_91 rfl t38 (by decide) rfl rfl rfl hl.1 (by decide) ⟨Nat.le_of_ble_eq_true rfl, Nat.le_of_ble_eq_true rfl⟩ ⟨Nat.le_trans (Nat.add_le_add_left h43 _) hc, Nat.le_trans (Nat.add_le_add_left h44 _) hs⟩ (c_Br_tell hl0 _ _ _ _ _ hq) (fun _ _ _ _ _ _ h => h.elim) (fun v39 w40 H locs hv hW => ?_)
    obtain ⟨rfl, hq⟩ := hv
    have hc := bw_bud hc h43
    have hs := bw_bud hs h44
    refine W.eq (g2 := F0 m 94 ls []) rfl ?_
    exact bw_vret C hW ⟨rfl, hq⟩ d_Br_passOnTo_94 (Nat.le_trans (Nat.le_add_right _ _) hc) (Nat.le_trans (Nat.le_add_right _ _) hs)
  · have hq := hq.2 c1
    exact bw_vret C hW ⟨rfl, hq⟩ d_Br_passOnTo_48 (Nat.le_trans (Nat.le_add_right _ _) hc) (Nat.le_trans (Nat.le_add_right _ _) hs)
def wb_Br_passOnTo_27 (e0 mi : Nat) (Q : Wd → Prop) (x0 : Nat) (x1 : Option Nat) (x2 : Option Nat) (z0 : Option Nat) (w : Wd) (nc ns : Nat) : Prop :=
  (¬ z0 = none → (∃ a2 : Nat, x2 = some a2 ∧ (bw_is w a2 0 ∧ (wp_Bt_wayOf e0 mi a2 z0 w (fun r10 w5 => wb_Br_passOnTo_41 e0 mi Q x0 x1 x2 z0 r10 w5 nc ns))))) ∧ (z0 = none → (wb_Br_passOnTo_41 e0 mi Q x0 x1 x2 z0 none w nc ns))
set_option maxHeartbeats 4000000 in
set_option maxRecDepth 100000 in
theorem k_Br_passOnTo_27 {p : Program} {l : Launch} {e : Env} {s : State} {m : MethodId} {args : Array Value} {below : List Frame} {meth : Method} {c : Code} {D : va_G} {AC : Nat → ClassId} {e0 mi : Nat} {A : Nat → Prop} {mc ms : Nat} {Q : Wd → Prop} (C : Cx p l s m args meth c D AC e0 mi A n_Br_passOnTo b_Br_passOnTo 5 none) (x0 : Nat) (x1 : Option Nat) (x2 : Option Nat) (z0 : Option Nat) (w : Wd) (nc ns : Nat) (hq : wb_Br_passOnTo_27 e0 mi Q x0 x1 x2 z0 w nc ns) : ∀ (H : Heap) (locs : List Loc) (cells slots : Nat) (ls : Array Slot), HW D cls8 FTc AC A s.heap H locs w → lv_has ls 5 [(0, va_rf (some x0)), (1, va_rf x1), (2, va_rf x2)] → cells + nc ≤ mc → slots + ns ≤ ms → W p l e { frames := 8, cells := mc, slots := ms, locals := 192 } s m args below meth c H locs cells slots (vx_MQ below (QQ D AC A (fun v w9 => v = none ∧ Q w9)) (XX D AC A (fun _ _ => False)) args s mc ms A) (F0 m 27 ls [va_rf z0]) := by
  obtain ⟨hl0, hx, hb, hr, ht, hown, hlocks, hnm, hml, hex, hK, hA, hZ, hV⟩ := id C
  intro H locs cells slots ls hW hl hc hs
  unfold wb_Br_passOnTo_27 at hq
  refine bw_astore_n (i := 3) (lv' := [(3, va_rf z0), (0, va_rf (some x0)), (1, va_rf x1), (2, va_rf x2)]) hx hb d_Br_passOnTo_27 rfl hl (by decide) (by simp [bw_cat, cat_i, cat_j]) (fun ls hl => ?_)
  refine bw_aload_n hx hb d_Br_passOnTo_28 rfl (lv_at hl 0 rfl) ?_
  refine bw_ifnonnull (tgt := 36) hx hb d_Br_passOnTo_29 (by decide) (fun c1 => ?_) (fun c1 => ?_)
  · have hq := hq.1 c1
    refine bw_aload_n hx hb d_Br_passOnTo_36 rfl (lv_at hl 3 rfl) ?_
    refine bw_aload_n hx hb d_Br_passOnTo_37 rfl (lv_at hl 0 rfl) ?_
    obtain ⟨a2, ea2, hq⟩ := hq
    obtain ⟨t3, hq⟩ := hq
    refine bw_callV (As := [va_rf z0]) (rest := []) C hW ci_Bt_wayOf m_576 m_577 m_578 d_Br_passOnTo_38 ea2 t3 (by decide) rfl rfl rfl hl.1 (by decide) ⟨Nat.le_of_ble_eq_true rfl, Nat.le_of_ble_eq_true rfl⟩ ⟨Nat.le_trans (Nat.add_le_add_left (Nat.zero_le _) _) hc, Nat.le_trans (Nat.add_le_add_left (Nat.zero_le _) _) hs⟩ (c_Bt_wayOf hl0 _ _ _ hq) (fun _ _ _ _ _ _ h => h.elim) (fun v4 w5 H locs hv hW => ?_)
    obtain ⟨r10, rfl, hq⟩ := hv
    have hc := bw_bud0 hc
    have hs := bw_bud0 hs
    refine W.eq (g2 := F0 m 41 ls [va_rf r10]) rfl ?_
    exact k_Br_passOnTo_41 C  _ _ _ _ _ _ _ _ hq _ _ _ _ _ hW (lv_sub hl [1, 2, 3, 0] rfl) hc hs
  · have hq := hq.2 c1
    refine bw_null hx hb d_Br_passOnTo_32 ?_
    refine lv_goto (tgt := 41) hx hb d_Br_passOnTo_33 (by decide) ?_
    exact k_Br_passOnTo_41 C  _ _ _ _ _ _ _ _ hq _ _ _ _ _ hW (lv_sub hl [1, 2, 3, 0] rfl) hc hs
def wp_Br_passOnTo (e0 mi : Nat) (x0 : Nat) (x1 : Option Nat) (w : Wd) (nc ns : Nat) (Q : Wd → Prop) : Prop :=
  bw_is w x0 5 ∧ (wp_Br_missingToRoom e0 mi x0 x1 w (fun i8 w3 => (i8 ≤ 0 → (bw_is w3 x0 5 ∧ (wp_Br_giverTo e0 mi x0 x1 w3 (fun r17 w12 => (¬ r17 = none → (∃ a19 : Nat, r17 = some a19 ∧ (bw_is w12 a19 0 ∧ (wp_Bt_itemAtEnd e0 mi a19 w12 (fun r27 w22 => wb_Br_passOnTo_27 e0 mi Q x0 x1 r17 r27 w22 nc ns))))) ∧ (r17 = none → (wb_Br_passOnTo_27 e0 mi Q x0 x1 r17 none w12 nc ns)))))) ∧ (¬ i8 ≤ 0 → (Q w3))))
set_option maxHeartbeats 4000000 in
set_option maxRecDepth 100000 in
theorem k_Br_passOnTo_0 {p : Program} {l : Launch} {e : Env} {s : State} {m : MethodId} {args : Array Value} {below : List Frame} {meth : Method} {c : Code} {D : va_G} {AC : Nat → ClassId} {e0 mi : Nat} {A : Nat → Prop} {mc ms : Nat} {Q : Wd → Prop} (C : Cx p l s m args meth c D AC e0 mi A n_Br_passOnTo b_Br_passOnTo 5 none) (x0 : Nat) (x1 : Option Nat) (w : Wd) (nc ns : Nat) (hq : wp_Br_passOnTo e0 mi x0 x1 w nc ns Q) : ∀ (H : Heap) (locs : List Loc) (cells slots : Nat) (ls : Array Slot), HW D cls8 FTc AC A s.heap H locs w → lv_has ls 5 [(0, va_rf (some x0)), (1, va_rf x1)] → cells + nc ≤ mc → slots + ns ≤ ms → W p l e { frames := 8, cells := mc, slots := ms, locals := 192 } s m args below meth c H locs cells slots (vx_MQ below (QQ D AC A (fun v w9 => v = none ∧ Q w9)) (XX D AC A (fun _ _ => False)) args s mc ms A) (F0 m 0 ls []) := by
  obtain ⟨hl0, hx, hb, hr, ht, hown, hlocks, hnm, hml, hex, hK, hA, hZ, hV⟩ := id C
  intro H locs cells slots ls hW hl hc hs
  unfold wp_Br_passOnTo at hq
  refine bw_aload_n hx hb d_Br_passOnTo_0 rfl (lv_at hl 0 rfl) ?_
  refine bw_aload_n hx hb d_Br_passOnTo_1 rfl (lv_at hl 1 rfl) ?_
  obtain ⟨t1, hq⟩ := hq
  refine bw_callV (As := [va_rf x1]) (rest := []) C hW ci_Br_missingToRoom m_428 m_430 sel_Br_missingToRoom d_Br_passOnTo_2 rfl t1 (by decide) rfl rfl rfl hl.1 (by decide) ⟨Nat.le_of_ble_eq_true rfl, Nat.le_of_ble_eq_true rfl⟩ ⟨Nat.le_trans (Nat.add_le_add_left (Nat.zero_le _) _) hc, Nat.le_trans (Nat.add_le_add_left (Nat.zero_le _) _) hs⟩ (c_Br_missingToRoom hl0 _ _ _ hq) (fun _ _ _ _ _ _ h => h.elim) (fun v2 w3 H locs hv hW => ?_)
  obtain ⟨i8, rfl, hq⟩ := hv
  have hc := bw_bud0 hc
  have hs := bw_bud0 hs
  refine W.eq (g2 := F0 m 5 ls [.int i8]) rfl ?_
  refine lv_if_le (tgt := 9) hx hb d_Br_passOnTo_5 (by decide) (fun c9 => ?_) (fun c9 => ?_)
  · have hq := hq.1 c9
    refine bw_aload_n hx hb d_Br_passOnTo_9 rfl (lv_at hl 0 rfl) ?_
    refine bw_aload_n hx hb d_Br_passOnTo_10 rfl (lv_at hl 1 rfl) ?_
    obtain ⟨t10, hq⟩ := hq
    refine bw_callV (As := [va_rf x1]) (rest := []) C hW ci_Br_giverTo m_615 m_617 sel_Br_giverTo d_Br_passOnTo_11 rfl t10 (by decide) rfl rfl rfl hl.1 (by decide) ⟨Nat.le_of_ble_eq_true rfl, Nat.le_of_ble_eq_true rfl⟩ ⟨Nat.le_trans (Nat.add_le_add_left (Nat.zero_le _) _) hc, Nat.le_trans (Nat.add_le_add_left (Nat.zero_le _) _) hs⟩ (c_Br_giverTo hl0 _ _ _ hq) (fun _ _ _ _ _ _ h => h.elim) (fun v11 w12 H locs hv hW => ?_)
    obtain ⟨r17, rfl, hq⟩ := hv
    have hc := bw_bud0 hc
    have hs := bw_bud0 hs
    refine W.eq (g2 := F0 m 14 ls [va_rf r17]) rfl ?_
    refine bw_astore_n (i := 2) (lv' := [(2, va_rf r17), (0, va_rf (some x0)), (1, va_rf x1)]) hx hb d_Br_passOnTo_14 rfl hl (by decide) (by simp [bw_cat, cat_i, cat_j]) (fun ls hl => ?_)
    refine bw_aload_n hx hb d_Br_passOnTo_15 rfl (lv_at hl 0 rfl) ?_
    refine bw_ifnonnull (tgt := 23) hx hb d_Br_passOnTo_16 (by decide) (fun c18 => ?_) (fun c18 => ?_)
    · have hq := hq.1 c18
      refine bw_aload_n hx hb d_Br_passOnTo_23 rfl (lv_at hl 0 rfl) ?_
      obtain ⟨a19, ea19, hq⟩ := hq
      obtain ⟨t20, hq⟩ := hq
      refine bw_callV (As := []) (rest := []) C hW ci_Bt_itemAtEnd m_572 m_573 m_574 d_Br_passOnTo_24 ea19 t20 (by decide) rfl rfl rfl hl.1 (by decide) ⟨Nat.le_of_ble_eq_true rfl, Nat.le_of_ble_eq_true rfl⟩ ⟨Nat.le_trans (Nat.add_le_add_left (Nat.zero_le _) _) hc, Nat.le_trans (Nat.add_le_add_left (Nat.zero_le _) _) hs⟩ (c_Bt_itemAtEnd hl0 _ _ hq) (fun _ _ _ _ _ _ h => h.elim) (fun v21 w22 H locs hv hW => ?_)
      obtain ⟨r27, rfl, hq⟩ := hv
      have hc := bw_bud0 hc
      have hs := bw_bud0 hs
      refine W.eq (g2 := F0 m 27 ls [va_rf r27]) rfl ?_
      exact k_Br_passOnTo_27 C  _ _ _ _ _ _ _ hq _ _ _ _ _ hW (lv_sub hl [1, 2, 0] rfl) hc hs
    · have hq := hq.2 c18
      refine bw_null hx hb d_Br_passOnTo_19 ?_
      refine lv_goto (tgt := 27) hx hb d_Br_passOnTo_20 (by decide) ?_
      exact k_Br_passOnTo_27 C  _ _ _ _ _ _ _ hq _ _ _ _ _ hW (lv_sub hl [1, 2, 0] rfl) hc hs
  · have hq := hq.2 c9
    exact bw_vret C hW ⟨rfl, hq⟩ d_Br_passOnTo_8 (Nat.le_trans (Nat.le_add_right _ _) hc) (Nat.le_trans (Nat.le_add_right _ _) hs)
theorem ci_Br_passOnTo : CI n_Br_passOnTo b_Br_passOnTo 5 none 1 := ⟨m_614, m_1, by decide, by decide, by decide +kernel⟩
theorem sel_Br_passOnTo : Cond.selects "BeltRows" n_Br_passOnTo n_Br_passOnTo ∈ TBL := List.mem_filter.mpr ⟨List.mem_append_left _ (List.mem_map.mpr ⟨(n_Br_passOnTo, 9), by decide +kernel, rfl⟩), rfl⟩
theorem c_Br_passOnTo {l : Launch} {D : va_G} {AC : Nat → ClassId} {e0 mi : Nat} {Q : Wd → Prop} (hl0 : l.stackTraces = false) (x0 : Nat) (x1 : Option Nat) (w : Wd) (nc ns : Nat) (hq : wp_Br_passOnTo e0 mi x0 x1 w nc ns Q) : Ct l D AC e0 mi n_Br_passOnTo (wy n_Br_passOnTo b_Br_passOnTo 5 none) 8 192 [va_rf (some x0), va_rf x1] w nc ns (fun v w9 => v = none ∧ Q w9) (fun _ _ => False) :=
  Ct.of hl0 (by decide) (by simp [lg_sl, bw_cat, cat_i, cat_j]) (fun p e s m args below meth c A ls C hW hl => k_Br_passOnTo_0 C x0 x1 w nc ns hq s.heap [] 0 0 ls hW (by simpa [lv_args, bw_cat, cat_i, cat_j] using hl) (Nat.le_of_eq (Nat.zero_add _)) (Nat.le_of_eq (Nat.zero_add _)))
def wb_Br_noteReads_119 (e0 mi : Nat) (K3 : Nat → Option Nat → Option Nat → Int32 → Int32 → Wd → Nat → Nat → Prop) (Q : Wd → Prop) (x0 : Nat) (x1 : Option Nat) (x2 : Option Nat) (x3 : Int32) (x4 : Int32) (x5 : Option Nat) (x6 : Int32) (w : Wd) (nc ns : Nat) : Prop :=
  ∀ i1 : Int32, i1 = x4 + 1 → (K3 x0 x1 x2 x3 i1 w nc ns)
set_option maxHeartbeats 4000000 in
set_option maxRecDepth 100000 in
theorem k_Br_noteReads_119 {p : Program} {l : Launch} {e : Env} {s : State} {m : MethodId} {args : Array Value} {below : List Frame} {meth : Method} {c : Code} {D : va_G} {AC : Nat → ClassId} {e0 mi : Nat} {A : Nat → Prop} {mc ms : Nat} {K3 : Nat → Option Nat → Option Nat → Int32 → Int32 → Wd → Nat → Nat → Prop} {Q : Wd → Prop} (C : Cx p l s m args meth c D AC e0 mi A n_Br_noteReads b_Br_noteReads 7 none) (hK3 : ∀ (x0 : Nat) (x1 : Option Nat) (x2 : Option Nat) (x3 : Int32) (x4 : Int32) (w : Wd) (nc ns : Nat), K3 x0 x1 x2 x3 x4 w nc ns → ∀ (H : Heap) (locs : List Loc) (cells slots : Nat) (ls : Array Slot), HW D cls8 FTc AC A s.heap H locs w → lv_has ls 7 [(0, va_rf (some x0)), (1, va_rf x1), (2, va_rf x2), (3, .int x3), (4, .int x4)] → cells + nc ≤ mc → slots + ns ≤ ms → W p l e { frames := 7, cells := mc, slots := ms, locals := 171 } s m args below meth c H locs cells slots (vx_MQ below (QQ D AC A (fun v w9 => v = none ∧ Q w9)) (XX D AC A (fun _ _ => False)) args s mc ms A) (F0 m 3 ls [])) (x0 : Nat) (x1 : Option Nat) (x2 : Option Nat) (x3 : Int32) (x4 : Int32) (x5 : Option Nat) (x6 : Int32) (w : Wd) (nc ns : Nat) (hq : wb_Br_noteReads_119 e0 mi K3 Q x0 x1 x2 x3 x4 x5 x6 w nc ns) : ∀ (H : Heap) (locs : List Loc) (cells slots : Nat) (ls : Array Slot), HW D cls8 FTc AC A s.heap H locs w → lv_has ls 7 [(0, va_rf (some x0)), (1, va_rf x1), (2, va_rf x2), (3, .int x3), (4, .int x4), (5, va_rf x5), (6, .int x6)] → cells + nc ≤ mc → slots + ns ≤ ms → W p l e { frames := 7, cells := mc, slots := ms, locals := 171 } s m args below meth c H locs cells slots (vx_MQ below (QQ D AC A (fun v w9 => v = none ∧ Q w9)) (XX D AC A (fun _ _ => False)) args s mc ms A) (F0 m 119 ls []) := by
  obtain ⟨hl0, hx, hb, hr, ht, hown, hlocks, hnm, hml, hex, hK, hA, hZ, hV⟩ := id C
  intro H locs cells slots ls hW hl hc hs
  unfold wb_Br_noteReads_119 at hq
  obtain ⟨i1, ei1⟩ : ∃ y : Int32, y = x4 + 1 := ⟨_, rfl⟩
  have hq := hq i1 ei1
  refine lv_iinc (v := i1) (lv' := [(4, .int i1), (0, va_rf (some x0)), (1, va_rf x1), (2, va_rf x2), (3, .int x3), (5, va_rf x5), (6, .int x6)]) hx hb d_Br_noteReads_119 hl (k := 4) rfl (by rw [ei1]; rfl) (by decide) (by simp [bw_cat, cat_i, cat_j]) (fun ls hl => ?_)
  refine lv_goto (tgt := 3) hx hb d_Br_noteReads_122 (by decide) ?_
  exact hK3 _ _ _ _ _ _ _ _ hq _ _ _ _ _ hW (lv_sub hl [1, 2, 3, 4, 0] rfl) hc hs
def wb_Br_noteReads_64 (e0 mi : Nat) (K3 : Nat → Option Nat → Option Nat → Int32 → Int32 → Wd → Nat → Nat → Prop) (Q : Wd → Prop) (x0 : Nat) (x1 : Option Nat) (x2 : Option Nat) (x3 : Int32) (x4 : Int32) (x5 : Option Nat) (z0 : Int32) (w : Wd) (nc ns : Nat) : Prop :=
  (z0 = 0 → (wb_Br_noteReads_119 e0 mi K3 Q x0 x1 x2 x3 x4 x5 z0 w nc ns)) ∧ (¬ z0 = 0 → (bw_is w x0 5 ∧ (∃ a3 : Nat, (wR w x0 4) = some a3 ∧ (bw_is w a3 7 ∧ (wp_Al_size e0 mi a3 w (fun i11 w6 => ((4096 : Int32) ≤ i11 → (wb_Br_noteReads_119 e0 mi K3 Q x0 x1 x2 x3 x4 x5 z0 w6 nc ns)) ∧ (¬ (4096 : Int32) ≤ i11 → (bw_is w6 x0 5 ∧ (1 ≤ nc ∧ 4 ≤ ns ∧ ∀ q14 : Nat, q14 ∉ wL w6 → (∃ a19 : Nat, x5 = some a19 ∧ (bw_is (bw_new w6 q14 1 0) a19 3 ∧ (∃ a21 : Nat, x2 = some a21 ∧ (bw_is (bw_new w6 q14 1 0) a21 2 ∧ (wp_Ed_init e0 mi q14 ((wI (bw_new w6 q14 1 0) x0 7) + (wI (bw_new w6 q14 1 0) a19 3)) (0 : Int32) (wI (bw_new w6 q14 1 0) a21 0) (wI (bw_new w6 q14 1 0) a19 0) (bw_new w6 q14 1 0) (fun w24 => ∃ a30 : Nat, (wR w6 x0 4) = some a30 ∧ (bw_is w24 a30 7 ∧ (∃ k34 k35 : Nat, k34 ≤ (nc - 1) ∧ k35 ≤ (ns - 4) ∧ wp_Al_add e0 mi a30 (some q14) w24 k34 k35 (fun i38 w33 => wb_Br_noteReads_119 e0 mi K3 Q x0 x1 x2 x3 x4 x5 z0 w33 ((nc - 1) - k34) ((ns - 4) - k35)))))))))))))))))))
set_option maxHeartbeats 4000000 in
set_option maxRecDepth 100000 in
theorem k_Br_noteReads_64 {p : Program} {l : Launch} {e : Env} {s : State} {m : MethodId} {args : Array Value} {below : List Frame} {meth : Method} {c : Code} {D : va_G} {AC : Nat → ClassId} {e0 mi : Nat} {A : Nat → Prop} {mc ms : Nat} {K3 : Nat → Option Nat → Option Nat → Int32 → Int32 → Wd → Nat → Nat → Prop} {Q : Wd → Prop} (C : Cx p l s m args meth c D AC e0 mi A n_Br_noteReads b_Br_noteReads 7 none) (hK3 : ∀ (x0 : Nat) (x1 : Option Nat) (x2 : Option Nat) (x3 : Int32) (x4 : Int32) (w : Wd) (nc ns : Nat), K3 x0 x1 x2 x3 x4 w nc ns → ∀ (H : Heap) (locs : List Loc) (cells slots : Nat) (ls : Array Slot), HW D cls8 FTc AC A s.heap H locs w → lv_has ls 7 [(0, va_rf (some x0)), (1, va_rf x1), (2, va_rf x2), (3, .int x3), (4, .int x4)] → cells + nc ≤ mc → slots + ns ≤ ms → W p l e { frames := 7, cells := mc, slots := ms, locals := 171 } s m args below meth c H locs cells slots (vx_MQ below (QQ D AC A (fun v w9 => v = none ∧ Q w9)) (XX D AC A (fun _ _ => False)) args s mc ms A) (F0 m 3 ls [])) (x0 : Nat) (x1 : Option Nat) (x2 : Option Nat) (x3 : Int32) (x4 : Int32) (x5 : Option Nat) (z0 : Int32) (w : Wd) (nc ns : Nat) (hq : wb_Br_noteReads_64 e0 mi K3 Q x0 x1 x2 x3 x4 x5 z0 w nc ns) : ∀ (H : Heap) (locs : List Loc) (cells slots : Nat) (ls : Array Slot), HW D cls8 FTc AC A s.heap H locs w → lv_has ls 7 [(0, va_rf (some x0)), (1, va_rf x1), (2, va_rf x2), (3, .int x3), (4, .int x4), (5, va_rf x5)] → cells + nc ≤ mc → slots + ns ≤ ms → W p l e { frames := 7, cells := mc, slots := ms, locals := 171 } s m args below meth c H locs cells slots (vx_MQ below (QQ D AC A (fun v w9 => v = none ∧ Q w9)) (XX D AC A (fun _ _ => False)) args s mc ms A) (F0 m 64 ls [.int z0]) := by
  obtain ⟨hl0, hx, hb, hr, ht, hown, hlocks, hnm, hml, hex, hK, hA, hZ, hV⟩ := id C
  intro H locs cells slots ls hW hl hc hs
  unfold wb_Br_noteReads_64 at hq
  refine lv_istore (lv' := [(6, .int z0), (0, va_rf (some x0)), (1, va_rf x1), (2, va_rf x2), (3, .int x3), (4, .int x4), (5, va_rf x5)]) hx hb d_Br_noteReads_64 hl (by decide) (by simp [bw_cat, cat_i, cat_j]) (fun ls hl => ?_)
  refine lv_iload hx hb d_Br_noteReads_66 (lv_at hl 0 rfl) ?_
  refine lv_if_eq (tgt := 119) hx hb d_Br_noteReads_68 (by decide) (fun c1 => ?_) (fun c1 => ?_)
  · have hq := hq.1 c1
    exact k_Br_noteReads_119 C hK3 _ _ _ _ _ _ _ _ _ _ hq _ _ _ _ _ hW (lv_sub hl [1, 2, 3, 4, 5, 6, 0] rfl) hc hs
  · have hq := hq.2 c1
    refine bw_aload_n hx hb d_Br_noteReads_71 rfl (lv_at hl 1 rfl) ?_
    obtain ⟨t2, hq⟩ := hq
    refine bw_getR hx hb ht in_Br hown hK hW rfl t2 (by decide) rfl 4 (by decide) rfl (ht _ m_63) (fun _ h => h) d_Br_noteReads_72 ?_
    obtain ⟨a3, ea3, hq⟩ := hq
    obtain ⟨t4, hq⟩ := hq
    refine bw_callV (As := []) (rest := []) C hW ci_Al_size m_91 m_92 m_93 d_Br_noteReads_75 ea3 t4 (by decide) rfl rfl rfl hl.1 (by decide) ⟨Nat.le_of_ble_eq_true rfl, Nat.le_of_ble_eq_true rfl⟩ ⟨Nat.le_trans (Nat.add_le_add_left (Nat.zero_le _) _) hc, Nat.le_trans (Nat.add_le_add_left (Nat.zero_le _) _) hs⟩ (c_Al_size hl0 _ _ hq) (fun _ _ _ _ _ _ h => h.elim) (fun v5 w6 H locs hv hW => ?_)
    obtain ⟨i11, rfl, hq⟩ := hv
    have hc := bw_bud0 hc
    have hs := bw_bud0 hs
    refine W.eq (g2 := F0 m 78 ls [.int i11]) rfl ?_
    refine lv_sipush (v := 4096) hx hb d_Br_noteReads_78 (by decide) ?_
    refine lv_icmp_ge (tgt := 119) hx hb d_Br_noteReads_81 (by decide) (fun c12 => ?_) (fun c12 => ?_)
    · have hq := hq.1 c12
      exact k_Br_noteReads_119 C hK3 _ _ _ _ _ _ _ _ _ _ hq _ _ _ _ _ hW (lv_sub hl [1, 2, 3, 4, 5, 6, 0] rfl) hc hs
    · have hq := hq.2 c12
      refine bw_aload_n hx hb d_Br_noteReads_84 rfl (lv_at hl 1 rfl) ?_
      obtain ⟨t13, hq⟩ := hq
      refine bw_getR hx hb ht in_Br hown hK hW rfl t13 (by decide) rfl 4 (by decide) rfl (ht _ m_63) (fun _ h => h) d_Br_noteReads_85 ?_
      obtain ⟨h15, h16, hq⟩ := hq
      refine bw_mk (ci := 1) hx hb ht in_Ed y_Ed yk_Ed hown (ht _ m_550) (ht _ m_589) (ht _ m_23) hK hW hA (by decide) (by rfl) df_Ed (Nat.le_trans (Nat.add_le_add_left h15 _) hc) (Nat.le_trans (Nat.add_le_add_left h16 _) hs) d_Br_noteReads_88 (fun q14 H n17 hW => ?_)
      have hq := hq q14 n17
      have hc := bw_bud hc h15
      have hs := bw_bud hs h16
      have t13 := bw_is_new (kd := 1) (n := 0) n17 t13
      have t18 : bw_is (bw_new w6 q14 1 0) q14 1 := bw_is_self _ _ _ _
      refine lv_dup hx hb d_Br_noteReads_91 (bw_cat _) ?_
      refine bw_aload_n hx hb d_Br_noteReads_92 rfl (lv_at hl 1 rfl) ?_
      refine bw_getI hx hb ht in_Br hown hK hW rfl t13 (by decide) rfl 7 (by decide) rfl (ht _ m_66) (fun _ h => h) d_Br_noteReads_93 ?_
      refine bw_aload hx hb d_Br_noteReads_96 (lv_at hl 6 rfl) ?_
      obtain ⟨a19, ea19, hq⟩ := hq
      obtain ⟨t20, hq⟩ := hq
      refine bw_getI hx hb ht in_Sc hown hK hW ea19 t20 (by decide) rfl 3 (by decide) rfl (ht _ m_410) (fun _ h => h) d_Br_noteReads_98 ?_
      refine lv_iadd hx hb d_Br_noteReads_101 ?_
      refine lv_iconst (v := 0) hx hb d_Br_noteReads_102 (by decide) ?_
      refine bw_aload_n hx hb d_Br_noteReads_103 rfl (lv_at hl 3 rfl) ?_
      obtain ⟨a21, ea21, hq⟩ := hq
      obtain ⟨t22, hq⟩ := hq
      refine bw_getI hx hb ht in_It hown hK hW ea21 t22 (by decide) rfl 0 (by decide) rfl (ht _ m_444) (fun _ h => h) d_Br_noteReads_104 ?_
      refine bw_aload hx hb d_Br_noteReads_107 (lv_at hl 6 rfl) ?_
      refine bw_getI hx hb ht in_Sc hown hK hW ea19 t20 (by decide) rfl 0 (by decide) rfl (ht _ m_404) (fun _ h => h) d_Br_noteReads_109 ?_
      refine bw_callI (As := [.int ((wI (bw_new w6 q14 1 0) x0 7) + (wI (bw_new w6 q14 1 0) a19 3)), .int (0 : Int32), .int (wI (bw_new w6 q14 1 0) a21 0), .int (wI (bw_new w6 q14 1 0) a19 0)]) (rest := [va_rf (some q14), va_rf (wR w6 x0 4)]) C hW ci_Ed_init rfl m_590 m_591 d_Br_noteReads_112 rfl rfl hl.1 (by simp [bw_cat, cat_i, cat_j]) ⟨Nat.le_of_ble_eq_true rfl, Nat.le_of_ble_eq_true rfl⟩ ⟨Nat.le_trans (Nat.add_le_add_left (Nat.zero_le _) _) hc, Nat.le_trans (Nat.add_le_add_left (Nat.zero_le _) _) hs⟩ (c_Ed_init hl0 _ _ _ _ _ _ hq) (fun v23 w24 H locs hv hW => ?_)
      obtain ⟨rfl, hq⟩ := hv
      have hc := bw_bud0 hc
      have hs := bw_bud0 hs
      refine W.eq (g2 := F0 m 115 ls [va_rf (some q14), va_rf (wR w6 x0 4)]) rfl ?_
      obtain ⟨a30, ea30, hq⟩ := hq
      obtain ⟨t31, hq⟩ := hq
      obtain ⟨k34, k35, h36, h37, hq⟩ := hq
      refine bw_callV (As := [va_rf (some q14)]) (rest := []) C hW ci_Al_add m_274 m_275 m_276 d_Br_noteReads_115 ea30 t31 (by decide) rfl rfl rfl hl.1 (by decide) ⟨Nat.le_of_ble_eq_true rfl, Nat.le_of_ble_eq_true rfl⟩ ⟨Nat.le_trans (Nat.add_le_add_left h36 _) hc, Nat.le_trans (Nat.add_le_add_left h37 _) hs⟩ (c_Al_add hl0 _ _ _ _ _ hq) (fun _ _ _ _ _ _ h => h.elim) (fun v32 w33 H locs hv hW => ?_)
      obtain ⟨i38, rfl, hq⟩ := hv
      have hc := bw_bud hc h36
      have hs := bw_bud hs h37
      refine W.eq (g2 := F0 m 118 ls [.int i38]) rfl ?_
      refine lv_pop hx hb d_Br_noteReads_118 rfl ?_
      exact k_Br_noteReads_119 C hK3 _ _ _ _ _ _ _ _ _ _ hq _ _ _ _ _ hW (lv_sub hl [1, 2, 3, 4, 5, 6, 0] rfl) hc hs
def wb_Br_noteReads_63 (e0 mi : Nat) (K3 : Nat → Option Nat → Option Nat → Int32 → Int32 → Wd → Nat → Nat → Prop) (Q : Wd → Prop) (x0 : Nat) (x1 : Option Nat) (x2 : Option Nat) (x3 : Int32) (x4 : Int32) (x5 : Option Nat) (w : Wd) (nc ns : Nat) : Prop :=
  wb_Br_noteReads_64 e0 mi K3 Q x0 x1 x2 x3 x4 x5 (0 : Int32) w nc ns
set_option maxHeartbeats 4000000 in
set_option maxRecDepth 100000 in
theorem k_Br_noteReads_63 {p : Program} {l : Launch} {e : Env} {s : State} {m : MethodId} {args : Array Value} {below : List Frame} {meth : Method} {c : Code} {D : va_G} {AC : Nat → ClassId} {e0 mi : Nat} {A : Nat → Prop} {mc ms : Nat} {K3 : Nat → Option Nat → Option Nat → Int32 → Int32 → Wd → Nat → Nat → Prop} {Q : Wd → Prop} (C : Cx p l s m args meth c D AC e0 mi A n_Br_noteReads b_Br_noteReads 7 none) (hK3 : ∀ (x0 : Nat) (x1 : Option Nat) (x2 : Option Nat) (x3 : Int32) (x4 : Int32) (w : Wd) (nc ns : Nat), K3 x0 x1 x2 x3 x4 w nc ns → ∀ (H : Heap) (locs : List Loc) (cells slots : Nat) (ls : Array Slot), HW D cls8 FTc AC A s.heap H locs w → lv_has ls 7 [(0, va_rf (some x0)), (1, va_rf x1), (2, va_rf x2), (3, .int x3), (4, .int x4)] → cells + nc ≤ mc → slots + ns ≤ ms → W p l e { frames := 7, cells := mc, slots := ms, locals := 171 } s m args below meth c H locs cells slots (vx_MQ below (QQ D AC A (fun v w9 => v = none ∧ Q w9)) (XX D AC A (fun _ _ => False)) args s mc ms A) (F0 m 3 ls [])) (x0 : Nat) (x1 : Option Nat) (x2 : Option Nat) (x3 : Int32) (x4 : Int32) (x5 : Option Nat) (w : Wd) (nc ns : Nat) (hq : wb_Br_noteReads_63 e0 mi K3 Q x0 x1 x2 x3 x4 x5 w nc ns) : ∀ (H : Heap) (locs : List Loc) (cells slots : Nat) (ls : Array Slot), HW D cls8 FTc AC A s.heap H locs w → lv_has ls 7 [(0, va_rf (some x0)), (1, va_rf x1), (2, va_rf x2), (3, .int x3), (4, .int x4), (5, va_rf x5)] → cells + nc ≤ mc → slots + ns ≤ ms → W p l e { frames := 7, cells := mc, slots := ms, locals := 171 } s m args below meth c H locs cells slots (vx_MQ below (QQ D AC A (fun v w9 => v = none ∧ Q w9)) (XX D AC A (fun _ _ => False)) args s mc ms A) (F0 m 63 ls []) := by
  obtain ⟨hl0, hx, hb, hr, ht, hown, hlocks, hnm, hml, hex, hK, hA, hZ, hV⟩ := id C
  intro H locs cells slots ls hW hl hc hs
  unfold wb_Br_noteReads_63 at hq
  refine lv_iconst (v := 0) hx hb d_Br_noteReads_63 (by decide) ?_
  exact k_Br_noteReads_64 C hK3 _ _ _ _ _ _ _ _ _ _ hq _ _ _ _ _ hW (lv_sub hl [0, 1, 2, 3, 4, 5] rfl) hc hs
def wb_Br_noteReads_3 (e0 mi : Nat) (Q : Wd → Prop) : Nat → Nat → Option Nat → Option Nat → Int32 → Int32 → Wd → Nat → Nat → Prop
  | 0, _, _, _, _, _, _, _, _ => False
  | n + 1, x0, x1, x2, x3, x4, w, nc, ns => bw_is w x0 5 ∧ (∃ a2 : Nat, (wR w x0 2) = some a2 ∧ (bw_is w a2 7 ∧ (wp_Al_size e0 mi a2 w (fun i10 w5 => (i10 ≤ x4 → (Q w5)) ∧ (¬ i10 ≤ x4 → (bw_is w5 x0 5 ∧ (∃ a13 : Nat, (wR w5 x0 2) = some a13 ∧ (bw_is w5 a13 7 ∧ (wp_Al_get e0 mi a13 x4 w5 (fun r21 w16 => (∀ a23, r21 = some a23 → bw_is w16 a23 3) ∧ (∃ a24 : Nat, r21 = some a24 ∧ (bw_is w16 a24 3 ∧ ((¬ (wR w16 a24 1) = x1 → (wb_Br_noteReads_63 e0 mi (wb_Br_noteReads_3 e0 mi Q n) Q x0 x1 x2 x3 x4 r21 w16 nc ns)) ∧ ((wR w16 a24 1) = x1 → (((wI w16 a24 2) ≤ x3 → (wb_Br_noteReads_63 e0 mi (wb_Br_noteReads_3 e0 mi Q n) Q x0 x1 x2 x3 x4 r21 w16 nc ns)) ∧ (¬ (wI w16 a24 2) ≤ x3 → (∃ a28 : Nat, x2 = some a28 ∧ (bw_is w16 a28 2 ∧ (((wI w16 a28 7) < (wI w16 a24 2) → (wb_Br_noteReads_63 e0 mi (wb_Br_noteReads_3 e0 mi Q n) Q x0 x1 x2 x3 x4 r21 w16 nc ns)) ∧ (¬ (wI w16 a28 7) < (wI w16 a24 2) → (wb_Br_noteReads_64 e0 mi (wb_Br_noteReads_3 e0 mi Q n) Q x0 x1 x2 x3 x4 r21 (1 : Int32) w16 nc ns)))))))))))))))))))))
set_option maxHeartbeats 4000000 in
set_option maxRecDepth 100000 in
theorem k_Br_noteReads_3 {p : Program} {l : Launch} {e : Env} {s : State} {m : MethodId} {args : Array Value} {below : List Frame} {meth : Method} {c : Code} {D : va_G} {AC : Nat → ClassId} {e0 mi : Nat} {A : Nat → Prop} {mc ms : Nat} {Q : Wd → Prop} (C : Cx p l s m args meth c D AC e0 mi A n_Br_noteReads b_Br_noteReads 7 none) : ∀ (n : Nat) (x0 : Nat) (x1 : Option Nat) (x2 : Option Nat) (x3 : Int32) (x4 : Int32) (w : Wd) (nc ns : Nat), wb_Br_noteReads_3 e0 mi Q n x0 x1 x2 x3 x4 w nc ns → ∀ (H : Heap) (locs : List Loc) (cells slots : Nat) (ls : Array Slot), HW D cls8 FTc AC A s.heap H locs w → lv_has ls 7 [(0, va_rf (some x0)), (1, va_rf x1), (2, va_rf x2), (3, .int x3), (4, .int x4)] → cells + nc ≤ mc → slots + ns ≤ ms → W p l e { frames := 7, cells := mc, slots := ms, locals := 171 } s m args below meth c H locs cells slots (vx_MQ below (QQ D AC A (fun v w9 => v = none ∧ Q w9)) (XX D AC A (fun _ _ => False)) args s mc ms A) (F0 m 3 ls []) := by
  obtain ⟨hl0, hx, hb, hr, ht, hown, hlocks, hnm, hml, hex, hK, hA, hZ, hV⟩ := id C
  intro n
  induction n with
  | zero =>
    intro x0 x1 x2 x3 x4 w nc ns hq
    exact hq.elim
  | succ n ih =>
    intro x0 x1 x2 x3 x4 w nc ns hq H locs cells slots ls hW hl hc hs
    have hK3 := ih
    unfold wb_Br_noteReads_3 at hq
    refine lv_iload hx hb d_Br_noteReads_3 (lv_at hl 4 rfl) ?_
    refine bw_aload_n hx hb d_Br_noteReads_5 rfl (lv_at hl 0 rfl) ?_
    obtain ⟨t1, hq⟩ := hq
    refine bw_getR hx hb ht in_Br hown hK hW rfl t1 (by decide) rfl 2 (by decide) rfl (ht _ m_61) (fun _ h => h) d_Br_noteReads_6 ?_
    obtain ⟨a2, ea2, hq⟩ := hq
    obtain ⟨t3, hq⟩ := hq
    refine bw_callV (As := []) (rest := [.int x4]) C hW ci_Al_size m_91 m_92 m_93 d_Br_noteReads_9 ea2 t3 (by decide) rfl rfl rfl hl.1 (by simp [bw_cat, cat_i, cat_j]) ⟨Nat.le_of_ble_eq_true rfl, Nat.le_of_ble_eq_true rfl⟩ ⟨Nat.le_trans (Nat.add_le_add_left (Nat.zero_le _) _) hc, Nat.le_trans (Nat.add_le_add_left (Nat.zero_le _) _) hs⟩ (c_Al_size hl0 _ _ hq) (fun _ _ _ _ _ _ h => h.elim) (fun v4 w5 H locs hv hW => ?_)
    obtain ⟨i10, rfl, hq⟩ := hv
    have hc := bw_bud0 hc
    have hs := bw_bud0 hs
    refine W.eq (g2 := F0 m 12 ls [.int i10, .int x4]) rfl ?_
    refine lv_icmp_ge (tgt := 125) hx hb d_Br_noteReads_12 (by decide) (fun c11 => ?_) (fun c11 => ?_)
    · have hq := hq.1 c11
      exact bw_vret C hW ⟨rfl, hq⟩ d_Br_noteReads_125 (Nat.le_trans (Nat.le_add_right _ _) hc) (Nat.le_trans (Nat.le_add_right _ _) hs)
    · have hq := hq.2 c11
      refine bw_aload_n hx hb d_Br_noteReads_15 rfl (lv_at hl 0 rfl) ?_
      obtain ⟨t12, hq⟩ := hq
      refine bw_getR hx hb ht in_Br hown hK hW rfl t12 (by decide) rfl 2 (by decide) rfl (ht _ m_61) (fun _ h => h) d_Br_noteReads_16 ?_
      refine lv_iload hx hb d_Br_noteReads_19 (lv_at hl 4 rfl) ?_
      obtain ⟨a13, ea13, hq⟩ := hq
      obtain ⟨t14, hq⟩ := hq
      refine bw_callV (As := [.int x4]) (rest := []) C hW ci_Al_get m_99 m_100 m_101 d_Br_noteReads_21 ea13 t14 (by decide) rfl rfl rfl hl.1 (by decide) ⟨Nat.le_of_ble_eq_true rfl, Nat.le_of_ble_eq_true rfl⟩ ⟨Nat.le_trans (Nat.add_le_add_left (Nat.zero_le _) _) hc, Nat.le_trans (Nat.add_le_add_left (Nat.zero_le _) _) hs⟩ (c_Al_get hl0 _ _ _ hq) (fun _ _ _ _ _ _ h => h.elim) (fun v15 w16 H locs hv hW => ?_)
      obtain ⟨r21, rfl, hq⟩ := hv
      have hc := bw_bud0 hc
      have hs := bw_bud0 hs
      refine W.eq (g2 := F0 m 24 ls [va_rf r21]) rfl ?_
      obtain ⟨h22, hq⟩ := hq
      refine bw_cast C hW m_397 (cn := 3) rfl (by decide) (by decide +kernel) h22 d_Br_noteReads_24 ?_
      refine bw_astore (lv' := [(5, va_rf r21), (0, va_rf (some x0)), (1, va_rf x1), (2, va_rf x2), (3, .int x3), (4, .int x4)]) hx hb d_Br_noteReads_27 hl (by decide) (by simp [bw_cat, cat_i, cat_j]) (fun ls hl => ?_)
      refine bw_aload hx hb d_Br_noteReads_29 (lv_at hl 0 rfl) ?_
      obtain ⟨a24, ea24, hq⟩ := hq
      obtain ⟨t25, hq⟩ := hq
      refine bw_getR hx hb ht in_Sc hown hK hW ea24 t25 (by decide) rfl 1 (by decide) rfl (ht _ m_406) (fun _ h => h) d_Br_noteReads_31 ?_
      refine bw_aload_n hx hb d_Br_noteReads_34 rfl (lv_at hl 2 rfl) ?_
      refine lv_acmp_ne (tgt := 63) hx hb d_Br_noteReads_35 (by decide) (fun c26 => ?_) (fun c26 => ?_)
      · have hq := hq.1 c26
        exact k_Br_noteReads_63 C hK3 _ _ _ _ _ _ _ _ _ hq _ _ _ _ _ hW (lv_sub hl [1, 2, 3, 4, 5, 0] rfl) hc hs
      · have hq := hq.2 c26
        refine lv_iload_n hx hb d_Br_noteReads_38 rfl (lv_at hl 4 rfl) ?_
        refine bw_aload hx hb d_Br_noteReads_39 (lv_at hl 0 rfl) ?_
        refine bw_getI hx hb ht in_Sc hown hK hW ea24 t25 (by decide) rfl 2 (by decide) rfl (ht _ m_408) (fun _ h => h) d_Br_noteReads_41 ?_
        refine lv_icmp_ge (tgt := 63) hx hb d_Br_noteReads_44 (by decide) (fun c27 => ?_) (fun c27 => ?_)
        · have hq := hq.1 c27
          exact k_Br_noteReads_63 C hK3 _ _ _ _ _ _ _ _ _ hq _ _ _ _ _ hW (lv_sub hl [1, 2, 3, 4, 5, 0] rfl) hc hs
        · have hq := hq.2 c27
          refine bw_aload_n hx hb d_Br_noteReads_47 rfl (lv_at hl 3 rfl) ?_
          obtain ⟨a28, ea28, hq⟩ := hq
          obtain ⟨t29, hq⟩ := hq
          refine bw_getI hx hb ht in_It hown hK hW ea28 t29 (by decide) rfl 7 (by decide) rfl (ht _ m_460) (fun _ h => h) d_Br_noteReads_48 ?_
          refine bw_aload hx hb d_Br_noteReads_51 (lv_at hl 0 rfl) ?_
          refine bw_getI hx hb ht in_Sc hown hK hW ea24 t25 (by decide) rfl 2 (by decide) rfl (ht _ m_408) (fun _ h => h) d_Br_noteReads_53 ?_
          refine lv_icmp_lt (tgt := 63) hx hb d_Br_noteReads_56 (by decide) (fun c30 => ?_) (fun c30 => ?_)
          · have hq := hq.1 c30
            exact k_Br_noteReads_63 C hK3 _ _ _ _ _ _ _ _ _ hq _ _ _ _ _ hW (lv_sub hl [1, 2, 3, 4, 5, 0] rfl) hc hs
          · have hq := hq.2 c30
            refine lv_iconst (v := 1) hx hb d_Br_noteReads_59 (by decide) ?_
            refine lv_goto (tgt := 64) hx hb d_Br_noteReads_60 (by decide) ?_
            exact k_Br_noteReads_64 C hK3 _ _ _ _ _ _ _ _ _ _ hq _ _ _ _ _ hW (lv_sub hl [1, 2, 3, 4, 5, 0] rfl) hc hs
def wp_Br_noteReads (e0 mi : Nat) (x0 : Nat) (x1 : Option Nat) (x2 : Option Nat) (x3 : Int32) (w : Wd) (nc ns : Nat) (Q : Wd → Prop) : Prop :=
  ∃ n1 : Nat, wb_Br_noteReads_3 e0 mi Q n1 x0 x1 x2 x3 (0 : Int32) w nc ns
set_option maxHeartbeats 4000000 in
set_option maxRecDepth 100000 in
theorem k_Br_noteReads_0 {p : Program} {l : Launch} {e : Env} {s : State} {m : MethodId} {args : Array Value} {below : List Frame} {meth : Method} {c : Code} {D : va_G} {AC : Nat → ClassId} {e0 mi : Nat} {A : Nat → Prop} {mc ms : Nat} {Q : Wd → Prop} (C : Cx p l s m args meth c D AC e0 mi A n_Br_noteReads b_Br_noteReads 7 none) (x0 : Nat) (x1 : Option Nat) (x2 : Option Nat) (x3 : Int32) (w : Wd) (nc ns : Nat) (hq : wp_Br_noteReads e0 mi x0 x1 x2 x3 w nc ns Q) : ∀ (H : Heap) (locs : List Loc) (cells slots : Nat) (ls : Array Slot), HW D cls8 FTc AC A s.heap H locs w → lv_has ls 7 [(0, va_rf (some x0)), (1, va_rf x1), (2, va_rf x2), (3, .int x3)] → cells + nc ≤ mc → slots + ns ≤ ms → W p l e { frames := 7, cells := mc, slots := ms, locals := 171 } s m args below meth c H locs cells slots (vx_MQ below (QQ D AC A (fun v w9 => v = none ∧ Q w9)) (XX D AC A (fun _ _ => False)) args s mc ms A) (F0 m 0 ls []) := by
  obtain ⟨hl0, hx, hb, hr, ht, hown, hlocks, hnm, hml, hex, hK, hA, hZ, hV⟩ := id C
  intro H locs cells slots ls hW hl hc hs
  unfold wp_Br_noteReads at hq
  refine lv_iconst (v := 0) hx hb d_Br_noteReads_0 (by decide) ?_
  refine lv_istore (lv' := [(4, .int (0 : Int32)), (0, va_rf (some x0)), (1, va_rf x1), (2, va_rf x2), (3, .int x3)]) hx hb d_Br_noteReads_1 hl (by decide) (by simp [bw_cat, cat_i, cat_j]) (fun ls hl => ?_)
  obtain ⟨n1, hq⟩ := hq
  exact k_Br_noteReads_3 C  n1 _ _ _ _ _ _ _ _ hq _ _ _ _ _ hW (lv_sub hl [1, 2, 3, 4, 0] rfl) hc hs
theorem ci_Br_noteReads : CI n_Br_noteReads b_Br_noteReads 7 none 3 := ⟨m_644, m_1, by decide, by decide, by decide +kernel⟩
theorem sel_Br_noteReads : Cond.selects "BeltRows" n_Br_noteReads n_Br_noteReads ∈ TBL := List.mem_filter.mpr ⟨List.mem_append_left _ (List.mem_map.mpr ⟨(n_Br_noteReads, 9), by decide +kernel, rfl⟩), rfl⟩
theorem c_Br_noteReads {l : Launch} {D : va_G} {AC : Nat → ClassId} {e0 mi : Nat} {Q : Wd → Prop} (hl0 : l.stackTraces = false) (x0 : Nat) (x1 : Option Nat) (x2 : Option Nat) (x3 : Int32) (w : Wd) (nc ns : Nat) (hq : wp_Br_noteReads e0 mi x0 x1 x2 x3 w nc ns Q) : Ct l D AC e0 mi n_Br_noteReads (wy n_Br_noteReads b_Br_noteReads 7 none) 7 171 [va_rf (some x0), va_rf x1, va_rf x2, .int x3] w nc ns (fun v w9 => v = none ∧ Q w9) (fun _ _ => False) :=
  Ct.of hl0 (by decide) (by simp [lg_sl, bw_cat, cat_i, cat_j]) (fun p e s m args below meth c A ls C hW hl => k_Br_noteReads_0 C x0 x1 x2 x3 w nc ns hq s.heap [] 0 0 ls hW (by simpa [lv_args, bw_cat, cat_i, cat_j] using hl) (Nat.le_of_eq (Nat.zero_add _)) (Nat.le_of_eq (Nat.zero_add _)))
def wb_Br_moveItems_5 (e0 mi : Nat) (Q : Wd → Prop) : Nat → Nat → Option Nat → Option Nat → Wd → Nat → Nat → Prop
  | 0, _, _, _, _, _, _ => False
  | n + 1, x0, x1, x2, w, nc, ns => (x2 = none → (Q w)) ∧ (¬ x2 = none → (∃ a2 : Nat, x2 = some a2 ∧ (bw_is w a2 2 ∧ (∀ i4 : Int32, i4 = wI w a2 7 → (bw_is w x0 5 ∧ (wp_It_goOn e0 mi a2 x1 (wI w x0 6) w (fun w7 => bw_is w7 x0 5 ∧ (∃ k16 k17 : Nat, k16 ≤ nc ∧ k17 ≤ ns ∧ wp_Br_noteReads e0 mi x0 x1 x2 i4 w7 k16 k17 (fun w15 => bw_is w15 a2 2 ∧ (∀ r22 : Option Nat, r22 = wR w15 a2 5 → ((wb_Br_moveItems_5 e0 mi Q n) x0 x1 r22 w15 (nc - k16) (ns - k17))))))))))))
set_option maxHeartbeats 4000000 in
set_option maxRecDepth 100000 in
theorem k_Br_moveItems_5 {p : Program} {l : Launch} {e : Env} {s : State} {m : MethodId} {args : Array Value} {below : List Frame} {meth : Method} {c : Code} {D : va_G} {AC : Nat → ClassId} {e0 mi : Nat} {A : Nat → Prop} {mc ms : Nat} {Q : Wd → Prop} (C : Cx p l s m args meth c D AC e0 mi A n_Br_moveItems b_Br_moveItems 4 none) : ∀ (n : Nat) (x0 : Nat) (x1 : Option Nat) (x2 : Option Nat) (w : Wd) (nc ns : Nat), wb_Br_moveItems_5 e0 mi Q n x0 x1 x2 w nc ns → ∀ (H : Heap) (locs : List Loc) (cells slots : Nat) (ls : Array Slot), HW D cls8 FTc AC A s.heap H locs w → lv_has ls 4 [(0, va_rf (some x0)), (1, va_rf x1), (2, va_rf x2)] → cells + nc ≤ mc → slots + ns ≤ ms → W p l e { frames := 8, cells := mc, slots := ms, locals := 197 } s m args below meth c H locs cells slots (vx_MQ below (QQ D AC A (fun v w9 => v = none ∧ Q w9)) (XX D AC A (fun _ _ => False)) args s mc ms A) (F0 m 5 ls []) := by
  obtain ⟨hl0, hx, hb, hr, ht, hown, hlocks, hnm, hml, hex, hK, hA, hZ, hV⟩ := id C
  intro n
  induction n with
  | zero =>
    intro x0 x1 x2 w nc ns hq
    exact hq.elim
  | succ n ih =>
    intro x0 x1 x2 w nc ns hq H locs cells slots ls hW hl hc hs
    have hK5 := ih
    unfold wb_Br_moveItems_5 at hq
    refine bw_aload_n hx hb d_Br_moveItems_5 rfl (lv_at hl 2 rfl) ?_
    refine bw_ifnull (tgt := 38) hx hb d_Br_moveItems_6 (by decide) (fun c1 => ?_) (fun c1 => ?_)
    · have hq := hq.1 c1
      exact bw_vret C hW ⟨rfl, hq⟩ d_Br_moveItems_38 (Nat.le_trans (Nat.le_add_right _ _) hc) (Nat.le_trans (Nat.le_add_right _ _) hs)
    · have hq := hq.2 c1
      refine bw_aload_n hx hb d_Br_moveItems_9 rfl (lv_at hl 2 rfl) ?_
      obtain ⟨a2, ea2, hq⟩ := hq
      obtain ⟨t3, hq⟩ := hq
      refine bw_getI hx hb ht in_It hown hK hW ea2 t3 (by decide) rfl 7 (by decide) rfl (ht _ m_460) (fun _ h => h) d_Br_moveItems_10 ?_
      refine lv_topi (fun i4 ei4 => ?_)
      have hq := hq i4 ei4
      refine lv_istore_n (i := 3) (lv' := [(3, .int i4), (0, va_rf (some x0)), (1, va_rf x1), (2, va_rf x2)]) hx hb d_Br_moveItems_13 rfl hl (by decide) (by simp [bw_cat, cat_i, cat_j]) (fun ls hl => ?_)
      refine bw_aload_n hx hb d_Br_moveItems_14 rfl (lv_at hl 3 rfl) ?_
      refine bw_aload_n hx hb d_Br_moveItems_15 rfl (lv_at hl 2 rfl) ?_
      refine bw_aload_n hx hb d_Br_moveItems_16 rfl (lv_at hl 1 rfl) ?_
      obtain ⟨t5, hq⟩ := hq
      refine bw_getI hx hb ht in_Br hown hK hW rfl t5 (by decide) rfl 6 (by decide) rfl (ht _ m_65) (fun _ h => h) d_Br_moveItems_17 ?_
      refine bw_callV (As := [va_rf x1, .int (wI w x0 6)]) (rest := []) C hW ci_It_goOn m_634 m_635 m_636 d_Br_moveItems_20 ea2 t3 (by decide) rfl rfl rfl hl.1 (by decide) ⟨Nat.le_of_ble_eq_true rfl, Nat.le_of_ble_eq_true rfl⟩ ⟨Nat.le_trans (Nat.add_le_add_left (Nat.zero_le _) _) hc, Nat.le_trans (Nat.add_le_add_left (Nat.zero_le _) _) hs⟩ (c_It_goOn hl0 _ _ _ _ hq) (fun _ _ _ _ _ _ h => h.elim) (fun v6 w7 H locs hv hW => ?_)
      obtain ⟨rfl, hq⟩ := hv
      have hc := bw_bud0 hc
      have hs := bw_bud0 hs
      refine W.eq (g2 := F0 m 23 ls []) rfl ?_
      refine bw_aload_n hx hb d_Br_moveItems_23 rfl (lv_at hl 1 rfl) ?_
      refine bw_aload_n hx hb d_Br_moveItems_24 rfl (lv_at hl 2 rfl) ?_
      refine bw_aload_n hx hb d_Br_moveItems_25 rfl (lv_at hl 3 rfl) ?_
      refine lv_iload_n hx hb d_Br_moveItems_26 rfl (lv_at hl 0 rfl) ?_
      obtain ⟨t13, hq⟩ := hq
      obtain ⟨k16, k17, h18, h19, hq⟩ := hq
      refine bw_callV (As := [va_rf x1, va_rf x2, .int i4]) (rest := []) C hW ci_Br_noteReads m_641 m_643 sel_Br_noteReads d_Br_moveItems_27 rfl t13 (by decide) rfl rfl rfl hl.1 (by decide) ⟨Nat.le_of_ble_eq_true rfl, Nat.le_of_ble_eq_true rfl⟩ ⟨Nat.le_trans (Nat.add_le_add_left h18 _) hc, Nat.le_trans (Nat.add_le_add_left h19 _) hs⟩ (c_Br_noteReads hl0 _ _ _ _ _ _ _ hq) (fun _ _ _ _ _ _ h => h.elim) (fun v14 w15 H locs hv hW => ?_)
      obtain ⟨rfl, hq⟩ := hv
      have hc := bw_bud hc h18
      have hs := bw_bud hs h19
      refine W.eq (g2 := F0 m 30 ls []) rfl ?_
      refine bw_aload_n hx hb d_Br_moveItems_30 rfl (lv_at hl 3 rfl) ?_
      obtain ⟨t21, hq⟩ := hq
      refine bw_getR hx hb ht in_It hown hK hW ea2 t21 (by decide) rfl 5 (by decide) rfl (ht _ m_455) (fun _ h => h) d_Br_moveItems_31 ?_
      refine bw_topr (fun r22 er22 => ?_)
      have hq := hq r22 er22
      refine bw_astore_n (i := 2) (lv' := [(2, va_rf r22), (3, .int i4), (0, va_rf (some x0)), (1, va_rf x1)]) hx hb d_Br_moveItems_34 rfl hl (by decide) (by simp [bw_cat, cat_i, cat_j]) (fun ls hl => ?_)
      refine lv_goto (tgt := 5) hx hb d_Br_moveItems_35 (by decide) ?_
      exact hK5 _ _ _ _ _ _ hq _ _ _ _ _ hW (lv_sub hl [2, 3, 0] rfl) hc hs
def wp_Br_moveItems (e0 mi : Nat) (x0 : Nat) (x1 : Option Nat) (w : Wd) (nc ns : Nat) (Q : Wd → Prop) : Prop :=
  ∃ a1 : Nat, x1 = some a1 ∧ (bw_is w a1 0 ∧ (∀ r3 : Option Nat, r3 = wR w a1 4 → (∃ n4 : Nat, wb_Br_moveItems_5 e0 mi Q n4 x0 x1 r3 w nc ns)))
set_option maxHeartbeats 4000000 in
set_option maxRecDepth 100000 in
theorem k_Br_moveItems_0 {p : Program} {l : Launch} {e : Env} {s : State} {m : MethodId} {args : Array Value} {below : List Frame} {meth : Method} {c : Code} {D : va_G} {AC : Nat → ClassId} {e0 mi : Nat} {A : Nat → Prop} {mc ms : Nat} {Q : Wd → Prop} (C : Cx p l s m args meth c D AC e0 mi A n_Br_moveItems b_Br_moveItems 4 none) (x0 : Nat) (x1 : Option Nat) (w : Wd) (nc ns : Nat) (hq : wp_Br_moveItems e0 mi x0 x1 w nc ns Q) : ∀ (H : Heap) (locs : List Loc) (cells slots : Nat) (ls : Array Slot), HW D cls8 FTc AC A s.heap H locs w → lv_has ls 4 [(0, va_rf (some x0)), (1, va_rf x1)] → cells + nc ≤ mc → slots + ns ≤ ms → W p l e { frames := 8, cells := mc, slots := ms, locals := 197 } s m args below meth c H locs cells slots (vx_MQ below (QQ D AC A (fun v w9 => v = none ∧ Q w9)) (XX D AC A (fun _ _ => False)) args s mc ms A) (F0 m 0 ls []) := by
  obtain ⟨hl0, hx, hb, hr, ht, hown, hlocks, hnm, hml, hex, hK, hA, hZ, hV⟩ := id C
  intro H locs cells slots ls hW hl hc hs
  unfold wp_Br_moveItems at hq
  refine bw_aload_n hx hb d_Br_moveItems_0 rfl (lv_at hl 1 rfl) ?_
  obtain ⟨a1, ea1, hq⟩ := hq
  obtain ⟨t2, hq⟩ := hq
  refine bw_getR hx hb ht in_Bt hown hK hW ea1 t2 (by decide) rfl 4 (by decide) rfl (ht _ m_248) (fun _ h => h) d_Br_moveItems_1 ?_
  refine bw_topr (fun r3 er3 => ?_)
  have hq := hq r3 er3
  refine bw_astore_n (i := 2) (lv' := [(2, va_rf r3), (0, va_rf (some x0)), (1, va_rf x1)]) hx hb d_Br_moveItems_4 rfl hl (by decide) (by simp [bw_cat, cat_i, cat_j]) (fun ls hl => ?_)
  obtain ⟨n4, hq⟩ := hq
  exact k_Br_moveItems_5 C  n4 _ _ _ _ _ _ hq _ _ _ _ _ hW (lv_sub hl [1, 2, 0] rfl) hc hs
theorem ci_Br_moveItems : CI n_Br_moveItems b_Br_moveItems 4 none 1 := ⟨m_633, m_1, by decide, by decide, by decide +kernel⟩
theorem sel_Br_moveItems : Cond.selects "BeltRows" n_Br_moveItems n_Br_moveItems ∈ TBL := List.mem_filter.mpr ⟨List.mem_append_left _ (List.mem_map.mpr ⟨(n_Br_moveItems, 9), by decide +kernel, rfl⟩), rfl⟩
theorem c_Br_moveItems {l : Launch} {D : va_G} {AC : Nat → ClassId} {e0 mi : Nat} {Q : Wd → Prop} (hl0 : l.stackTraces = false) (x0 : Nat) (x1 : Option Nat) (w : Wd) (nc ns : Nat) (hq : wp_Br_moveItems e0 mi x0 x1 w nc ns Q) : Ct l D AC e0 mi n_Br_moveItems (wy n_Br_moveItems b_Br_moveItems 4 none) 8 197 [va_rf (some x0), va_rf x1] w nc ns (fun v w9 => v = none ∧ Q w9) (fun _ _ => False) :=
  Ct.of hl0 (by decide) (by simp [lg_sl, bw_cat, cat_i, cat_j]) (fun p e s m args below meth c A ls C hW hl => k_Br_moveItems_0 C x0 x1 w nc ns hq s.heap [] 0 0 ls hW (by simpa [lv_args, bw_cat, cat_i, cat_j] using hl) (Nat.le_of_eq (Nat.zero_add _)) (Nat.le_of_eq (Nat.zero_add _)))
def wb_Br_passSecond_57 (e0 mi : Nat) (K24 : Nat → Int32 → Wd → Nat → Nat → Prop) (Q : Wd → Prop) (x0 : Nat) (x1 : Int32) (x2 : Option Nat) (w : Wd) (nc ns : Nat) : Prop :=
  ∀ i1 : Int32, i1 = x1 + (-1) → (K24 x0 i1 w nc ns)
set_option maxHeartbeats 4000000 in
set_option maxRecDepth 100000 in
theorem k_Br_passSecond_57 {p : Program} {l : Launch} {e : Env} {s : State} {m : MethodId} {args : Array Value} {below : List Frame} {meth : Method} {c : Code} {D : va_G} {AC : Nat → ClassId} {e0 mi : Nat} {A : Nat → Prop} {mc ms : Nat} {K24 : Nat → Int32 → Wd → Nat → Nat → Prop} {Q : Wd → Prop} (C : Cx p l s m args meth c D AC e0 mi A n_Br_passSecond b_Br_passSecond 3 none) (hK24 : ∀ (x0 : Nat) (x1 : Int32) (w : Wd) (nc ns : Nat), K24 x0 x1 w nc ns → ∀ (H : Heap) (locs : List Loc) (cells slots : Nat) (ls : Array Slot), HW D cls8 FTc AC A s.heap H locs w → lv_has ls 3 [(0, va_rf (some x0)), (1, .int x1)] → cells + nc ≤ mc → slots + ns ≤ ms → W p l e { frames := 9, cells := mc, slots := ms, locals := 220 } s m args below meth c H locs cells slots (vx_MQ below (QQ D AC A (fun v w9 => v = none ∧ Q w9)) (XX D AC A (fun _ _ => False)) args s mc ms A) (F0 m 24 ls [])) (x0 : Nat) (x1 : Int32) (x2 : Option Nat) (w : Wd) (nc ns : Nat) (hq : wb_Br_passSecond_57 e0 mi K24 Q x0 x1 x2 w nc ns) : ∀ (H : Heap) (locs : List Loc) (cells slots : Nat) (ls : Array Slot), HW D cls8 FTc AC A s.heap H locs w → lv_has ls 3 [(0, va_rf (some x0)), (1, .int x1), (2, va_rf x2)] → cells + nc ≤ mc → slots + ns ≤ ms → W p l e { frames := 9, cells := mc, slots := ms, locals := 220 } s m args below meth c H locs cells slots (vx_MQ below (QQ D AC A (fun v w9 => v = none ∧ Q w9)) (XX D AC A (fun _ _ => False)) args s mc ms A) (F0 m 57 ls []) := by
  obtain ⟨hl0, hx, hb, hr, ht, hown, hlocks, hnm, hml, hex, hK, hA, hZ, hV⟩ := id C
  intro H locs cells slots ls hW hl hc hs
  unfold wb_Br_passSecond_57 at hq
  obtain ⟨i1, ei1⟩ : ∃ y : Int32, y = x1 + (-1) := ⟨_, rfl⟩
  have hq := hq i1 ei1
  refine lv_iinc (v := i1) (lv' := [(1, .int i1), (0, va_rf (some x0)), (2, va_rf x2)]) hx hb d_Br_passSecond_57 hl (k := 1) rfl (by rw [ei1]; rfl) (by decide) (by simp [bw_cat, cat_i, cat_j]) (fun ls hl => ?_)
  refine lv_goto (tgt := 24) hx hb d_Br_passSecond_60 (by decide) ?_
  exact hK24 _ _ _ _ _ hq _ _ _ _ _ hW (lv_sub hl [1, 0] rfl) hc hs
def wb_Br_passSecond_100 (e0 mi : Nat) (K65 : Nat → Int32 → Wd → Nat → Nat → Prop) (Q : Wd → Prop) (x0 : Nat) (x1 : Int32) (x2 : Option Nat) (w : Wd) (nc ns : Nat) : Prop :=
  ∀ i1 : Int32, i1 = x1 + 1 → (K65 x0 i1 w nc ns)
set_option maxHeartbeats 4000000 in
set_option maxRecDepth 100000 in
theorem k_Br_passSecond_100 {p : Program} {l : Launch} {e : Env} {s : State} {m : MethodId} {args : Array Value} {below : List Frame} {meth : Method} {c : Code} {D : va_G} {AC : Nat → ClassId} {e0 mi : Nat} {A : Nat → Prop} {mc ms : Nat} {K65 : Nat → Int32 → Wd → Nat → Nat → Prop} {Q : Wd → Prop} (C : Cx p l s m args meth c D AC e0 mi A n_Br_passSecond b_Br_passSecond 3 none) (hK65 : ∀ (x0 : Nat) (x1 : Int32) (w : Wd) (nc ns : Nat), K65 x0 x1 w nc ns → ∀ (H : Heap) (locs : List Loc) (cells slots : Nat) (ls : Array Slot), HW D cls8 FTc AC A s.heap H locs w → lv_has ls 3 [(0, va_rf (some x0)), (1, .int x1)] → cells + nc ≤ mc → slots + ns ≤ ms → W p l e { frames := 9, cells := mc, slots := ms, locals := 220 } s m args below meth c H locs cells slots (vx_MQ below (QQ D AC A (fun v w9 => v = none ∧ Q w9)) (XX D AC A (fun _ _ => False)) args s mc ms A) (F0 m 65 ls [])) (x0 : Nat) (x1 : Int32) (x2 : Option Nat) (w : Wd) (nc ns : Nat) (hq : wb_Br_passSecond_100 e0 mi K65 Q x0 x1 x2 w nc ns) : ∀ (H : Heap) (locs : List Loc) (cells slots : Nat) (ls : Array Slot), HW D cls8 FTc AC A s.heap H locs w → lv_has ls 3 [(0, va_rf (some x0)), (1, .int x1), (2, va_rf x2)] → cells + nc ≤ mc → slots + ns ≤ ms → W p l e { frames := 9, cells := mc, slots := ms, locals := 220 } s m args below meth c H locs cells slots (vx_MQ below (QQ D AC A (fun v w9 => v = none ∧ Q w9)) (XX D AC A (fun _ _ => False)) args s mc ms A) (F0 m 100 ls []) := by
  obtain ⟨hl0, hx, hb, hr, ht, hown, hlocks, hnm, hml, hex, hK, hA, hZ, hV⟩ := id C
  intro H locs cells slots ls hW hl hc hs
  unfold wb_Br_passSecond_100 at hq
  obtain ⟨i1, ei1⟩ : ∃ y : Int32, y = x1 + 1 := ⟨_, rfl⟩
  have hq := hq i1 ei1
  refine lv_iinc (v := i1) (lv' := [(1, .int i1), (0, va_rf (some x0)), (2, va_rf x2)]) hx hb d_Br_passSecond_100 hl (k := 1) rfl (by rw [ei1]; rfl) (by decide) (by simp [bw_cat, cat_i, cat_j]) (fun ls hl => ?_)
  refine lv_goto (tgt := 65) hx hb d_Br_passSecond_103 (by decide) ?_
  exact hK65 _ _ _ _ _ hq _ _ _ _ _ hW (lv_sub hl [1, 0] rfl) hc hs
def wb_Br_passSecond_65 (e0 mi : Nat) (Q : Wd → Prop) : Nat → Nat → Int32 → Wd → Nat → Nat → Prop
  | 0, _, _, _, _, _ => False
  | n + 1, x0, x1, w, nc, ns => bw_is w x0 5 ∧ (∃ a2 : Nat, (wR w x0 0) = some a2 ∧ (bw_is w a2 7 ∧ (wp_Al_size e0 mi a2 w (fun i10 w5 => (i10 ≤ x1 → (Q w5)) ∧ (¬ i10 ≤ x1 → (bw_is w5 x0 5 ∧ (∃ a13 : Nat, (wR w5 x0 0) = some a13 ∧ (bw_is w5 a13 7 ∧ (wp_Al_get e0 mi a13 x1 w5 (fun r21 w16 => (∀ a23, r21 = some a23 → bw_is w16 a23 0) ∧ (∃ a24 : Nat, r21 = some a24 ∧ (bw_is w16 a24 0 ∧ (((wI w16 a24 3) = 0 → (wb_Br_passSecond_100 e0 mi (wb_Br_passSecond_65 e0 mi Q n) Q x0 x1 r21 w16 nc ns)) ∧ (¬ (wI w16 a24 3) = 0 → (bw_is w16 x0 5 ∧ (∃ k30 k31 : Nat, k30 ≤ nc ∧ k31 ≤ ns ∧ wp_Br_moveItems e0 mi x0 r21 w16 k30 k31 (fun w29 => wb_Br_passSecond_100 e0 mi (wb_Br_passSecond_65 e0 mi Q n) Q x0 x1 r21 w29 (nc - k30) (ns - k31))))))))))))))))))
set_option maxHeartbeats 4000000 in
set_option maxRecDepth 100000 in
theorem k_Br_passSecond_65 {p : Program} {l : Launch} {e : Env} {s : State} {m : MethodId} {args : Array Value} {below : List Frame} {meth : Method} {c : Code} {D : va_G} {AC : Nat → ClassId} {e0 mi : Nat} {A : Nat → Prop} {mc ms : Nat} {Q : Wd → Prop} (C : Cx p l s m args meth c D AC e0 mi A n_Br_passSecond b_Br_passSecond 3 none) : ∀ (n : Nat) (x0 : Nat) (x1 : Int32) (w : Wd) (nc ns : Nat), wb_Br_passSecond_65 e0 mi Q n x0 x1 w nc ns → ∀ (H : Heap) (locs : List Loc) (cells slots : Nat) (ls : Array Slot), HW D cls8 FTc AC A s.heap H locs w → lv_has ls 3 [(0, va_rf (some x0)), (1, .int x1)] → cells + nc ≤ mc → slots + ns ≤ ms → W p l e { frames := 9, cells := mc, slots := ms, locals := 220 } s m args below meth c H locs cells slots (vx_MQ below (QQ D AC A (fun v w9 => v = none ∧ Q w9)) (XX D AC A (fun _ _ => False)) args s mc ms A) (F0 m 65 ls []) := by
  obtain ⟨hl0, hx, hb, hr, ht, hown, hlocks, hnm, hml, hex, hK, hA, hZ, hV⟩ := id C
  intro n
  induction n with
  | zero =>
    intro x0 x1 w nc ns hq
    exact hq.elim
  | succ n ih =>
    intro x0 x1 w nc ns hq H locs cells slots ls hW hl hc hs
    have hK65 := ih
    unfold wb_Br_passSecond_65 at hq
    refine lv_iload_n hx hb d_Br_passSecond_65 rfl (lv_at hl 1 rfl) ?_
    refine bw_aload_n hx hb d_Br_passSecond_66 rfl (lv_at hl 0 rfl) ?_
    obtain ⟨t1, hq⟩ := hq
    refine bw_getR hx hb ht in_Br hown hK hW rfl t1 (by decide) rfl 0 (by decide) rfl (ht _ m_59) (fun _ h => h) d_Br_passSecond_67 ?_
    obtain ⟨a2, ea2, hq⟩ := hq
    obtain ⟨t3, hq⟩ := hq
    refine bw_callV (As := []) (rest := [.int x1]) C hW ci_Al_size m_91 m_92 m_93 d_Br_passSecond_70 ea2 t3 (by decide) rfl rfl rfl hl.1 (by simp [bw_cat, cat_i, cat_j]) ⟨Nat.le_of_ble_eq_true rfl, Nat.le_of_ble_eq_true rfl⟩ ⟨Nat.le_trans (Nat.add_le_add_left (Nat.zero_le _) _) hc, Nat.le_trans (Nat.add_le_add_left (Nat.zero_le _) _) hs⟩ (c_Al_size hl0 _ _ hq) (fun _ _ _ _ _ _ h => h.elim) (fun v4 w5 H locs hv hW => ?_)
    obtain ⟨i10, rfl, hq⟩ := hv
    have hc := bw_bud0 hc
    have hs := bw_bud0 hs
    refine W.eq (g2 := F0 m 73 ls [.int i10, .int x1]) rfl ?_
    refine lv_icmp_ge (tgt := 106) hx hb d_Br_passSecond_73 (by decide) (fun c11 => ?_) (fun c11 => ?_)
    · have hq := hq.1 c11
      exact bw_vret C hW ⟨rfl, hq⟩ d_Br_passSecond_106 (Nat.le_trans (Nat.le_add_right _ _) hc) (Nat.le_trans (Nat.le_add_right _ _) hs)
    · have hq := hq.2 c11
      refine bw_aload_n hx hb d_Br_passSecond_76 rfl (lv_at hl 0 rfl) ?_
      obtain ⟨t12, hq⟩ := hq
      refine bw_getR hx hb ht in_Br hown hK hW rfl t12 (by decide) rfl 0 (by decide) rfl (ht _ m_59) (fun _ h => h) d_Br_passSecond_77 ?_
      refine lv_iload_n hx hb d_Br_passSecond_80 rfl (lv_at hl 1 rfl) ?_
      obtain ⟨a13, ea13, hq⟩ := hq
      obtain ⟨t14, hq⟩ := hq
      refine bw_callV (As := [.int x1]) (rest := []) C hW ci_Al_get m_99 m_100 m_101 d_Br_passSecond_81 ea13 t14 (by decide) rfl rfl rfl hl.1 (by decide) ⟨Nat.le_of_ble_eq_true rfl, Nat.le_of_ble_eq_true rfl⟩ ⟨Nat.le_trans (Nat.add_le_add_left (Nat.zero_le _) _) hc, Nat.le_trans (Nat.add_le_add_left (Nat.zero_le _) _) hs⟩ (c_Al_get hl0 _ _ _ hq) (fun _ _ _ _ _ _ h => h.elim) (fun v15 w16 H locs hv hW => ?_)
      obtain ⟨r21, rfl, hq⟩ := hv
      have hc := bw_bud0 hc
      have hs := bw_bud0 hs
      refine W.eq (g2 := F0 m 84 ls [va_rf r21]) rfl ?_
      obtain ⟨h22, hq⟩ := hq
      refine bw_cast C hW m_113 (cn := 0) rfl (by decide) (by decide +kernel) h22 d_Br_passSecond_84 ?_
      refine bw_astore_n (i := 2) (lv' := [(2, va_rf r21), (0, va_rf (some x0)), (1, .int x1)]) hx hb d_Br_passSecond_87 rfl hl (by decide) (by simp [bw_cat, cat_i, cat_j]) (fun ls hl => ?_)
      refine bw_aload_n hx hb d_Br_passSecond_88 rfl (lv_at hl 0 rfl) ?_
      obtain ⟨a24, ea24, hq⟩ := hq
      obtain ⟨t25, hq⟩ := hq
      refine bw_getI hx hb ht in_Bt hown hK hW ea24 t25 (by decide) rfl 3 (by decide) rfl (ht _ m_246) (fun _ h => h) d_Br_passSecond_89 ?_
      refine lv_if_eq (tgt := 100) hx hb d_Br_passSecond_92 (by decide) (fun c26 => ?_) (fun c26 => ?_)
      · have hq := hq.1 c26
        exact k_Br_passSecond_100 C hK65 _ _ _ _ _ _ hq _ _ _ _ _ hW (lv_sub hl [1, 2, 0] rfl) hc hs
      · have hq := hq.2 c26
        refine bw_aload_n hx hb d_Br_passSecond_95 rfl (lv_at hl 1 rfl) ?_
        refine bw_aload_n hx hb d_Br_passSecond_96 rfl (lv_at hl 0 rfl) ?_
        obtain ⟨t27, hq⟩ := hq
        obtain ⟨k30, k31, h32, h33, hq⟩ := hq
        refine bw_callV (As := [va_rf r21]) (rest := []) C hW ci_Br_moveItems m_630 m_632 sel_Br_moveItems d_Br_passSecond_97 rfl t27 (by decide) rfl rfl rfl hl.1 (by decide) ⟨Nat.le_of_ble_eq_true rfl, Nat.le_of_ble_eq_true rfl⟩ ⟨Nat.le_trans (Nat.add_le_add_left h32 _) hc, Nat.le_trans (Nat.add_le_add_left h33 _) hs⟩ (c_Br_moveItems hl0 _ _ _ _ _ hq) (fun _ _ _ _ _ _ h => h.elim) (fun v28 w29 H locs hv hW => ?_)
        obtain ⟨rfl, hq⟩ := hv
        have hc := bw_bud hc h32
        have hs := bw_bud hs h33
        refine W.eq (g2 := F0 m 100 ls []) rfl ?_
        exact k_Br_passSecond_100 C hK65 _ _ _ _ _ _ hq _ _ _ _ _ hW (lv_sub hl [1, 2, 0] rfl) hc hs
def wb_Br_passSecond_24 (e0 mi : Nat) (Q : Wd → Prop) : Nat → Nat → Int32 → Wd → Nat → Nat → Prop
  | 0, _, _, _, _, _ => False
  | n + 1, x0, x1, w, nc, ns => (x1 < 0 → (∃ n2 : Nat, wb_Br_passSecond_65 e0 mi Q n2 x0 (0 : Int32) w nc ns)) ∧ (¬ x1 < 0 → (bw_is w x0 5 ∧ (∃ a4 : Nat, (wR w x0 0) = some a4 ∧ (bw_is w a4 7 ∧ (wp_Al_get e0 mi a4 x1 w (fun r12 w7 => (∀ a14, r12 = some a14 → bw_is w7 a14 0) ∧ (∃ a15 : Nat, r12 = some a15 ∧ (bw_is w7 a15 0 ∧ (((wI w7 a15 3) = 0 → (wb_Br_passSecond_57 e0 mi (wb_Br_passSecond_24 e0 mi Q n) Q x0 x1 r12 w7 nc ns)) ∧ (¬ (wI w7 a15 3) = 0 → (bw_is w7 x0 5 ∧ (∃ k21 k22 : Nat, k21 ≤ nc ∧ k22 ≤ ns ∧ wp_Br_letOut e0 mi x0 r12 w7 k21 k22 (fun w20 => bw_is w20 x0 5 ∧ (∃ k29 k30 : Nat, k29 ≤ (nc - k21) ∧ k30 ≤ (ns - k22) ∧ wp_Br_passOnTo e0 mi x0 r12 w20 k29 k30 (fun w28 => wb_Br_passSecond_57 e0 mi (wb_Br_passSecond_24 e0 mi Q n) Q x0 x1 r12 w28 ((nc - k21) - k29) ((ns - k22) - k30))))))))))))))))
set_option maxHeartbeats 4000000 in
set_option maxRecDepth 100000 in
theorem k_Br_passSecond_24 {p : Program} {l : Launch} {e : Env} {s : State} {m : MethodId} {args : Array Value} {below : List Frame} {meth : Method} {c : Code} {D : va_G} {AC : Nat → ClassId} {e0 mi : Nat} {A : Nat → Prop} {mc ms : Nat} {Q : Wd → Prop} (C : Cx p l s m args meth c D AC e0 mi A n_Br_passSecond b_Br_passSecond 3 none) : ∀ (n : Nat) (x0 : Nat) (x1 : Int32) (w : Wd) (nc ns : Nat), wb_Br_passSecond_24 e0 mi Q n x0 x1 w nc ns → ∀ (H : Heap) (locs : List Loc) (cells slots : Nat) (ls : Array Slot), HW D cls8 FTc AC A s.heap H locs w → lv_has ls 3 [(0, va_rf (some x0)), (1, .int x1)] → cells + nc ≤ mc → slots + ns ≤ ms → W p l e { frames := 9, cells := mc, slots := ms, locals := 220 } s m args below meth c H locs cells slots (vx_MQ below (QQ D AC A (fun v w9 => v = none ∧ Q w9)) (XX D AC A (fun _ _ => False)) args s mc ms A) (F0 m 24 ls []) := by
  obtain ⟨hl0, hx, hb, hr, ht, hown, hlocks, hnm, hml, hex, hK, hA, hZ, hV⟩ := id C
  intro n
  induction n with
  | zero =>
    intro x0 x1 w nc ns hq
    exact hq.elim
  | succ n ih =>
    intro x0 x1 w nc ns hq H locs cells slots ls hW hl hc hs
    have hK24 := ih
    unfold wb_Br_passSecond_24 at hq
    refine lv_iload_n hx hb d_Br_passSecond_24 rfl (lv_at hl 1 rfl) ?_
    refine lv_if_lt (tgt := 63) hx hb d_Br_passSecond_25 (by decide) (fun c1 => ?_) (fun c1 => ?_)
    · have hq := hq.1 c1
      refine lv_iconst (v := 0) hx hb d_Br_passSecond_63 (by decide) ?_
      refine lv_istore_n (i := 1) (lv' := [(1, .int (0 : Int32)), (0, va_rf (some x0))]) hx hb d_Br_passSecond_64 rfl hl (by decide) (by simp [bw_cat, cat_i, cat_j]) (fun ls hl => ?_)
      obtain ⟨n2, hq⟩ := hq
      exact k_Br_passSecond_65 C  n2 _ _ _ _ _ hq _ _ _ _ _ hW (lv_sub hl [1, 0] rfl) hc hs
    · have hq := hq.2 c1
      refine bw_aload_n hx hb d_Br_passSecond_28 rfl (lv_at hl 0 rfl) ?_
      obtain ⟨t3, hq⟩ := hq
      refine bw_getR hx hb ht in_Br hown hK hW rfl t3 (by decide) rfl 0 (by decide) rfl (ht _ m_59) (fun _ h => h) d_Br_passSecond_29 ?_
      refine lv_iload_n hx hb d_Br_passSecond_32 rfl (lv_at hl 1 rfl) ?_
      obtain ⟨a4, ea4, hq⟩ := hq
      obtain ⟨t5, hq⟩ := hq
      refine bw_callV (As := [.int x1]) (rest := []) C hW ci_Al_get m_99 m_100 m_101 d_Br_passSecond_33 ea4 t5 (by decide) rfl rfl rfl hl.1 (by decide) ⟨Nat.le_of_ble_eq_true rfl, Nat.le_of_ble_eq_true rfl⟩ ⟨Nat.le_trans (Nat.add_le_add_left (Nat.zero_le _) _) hc, Nat.le_trans (Nat.add_le_add_left (Nat.zero_le _) _) hs⟩ (c_Al_get hl0 _ _ _ hq) (fun _ _ _ _ _ _ h => h.elim) (fun v6 w7 H locs hv hW => ?_)
      obtain ⟨r12, rfl, hq⟩ := hv
      have hc := bw_bud0 hc
      have hs := bw_bud0 hs
      refine W.eq (g2 := F0 m 36 ls [va_rf r12]) rfl ?_
      obtain ⟨h13, hq⟩ := hq
      refine bw_cast C hW m_113 (cn := 0) rfl (by decide) (by decide +kernel) h13 d_Br_passSecond_36 ?_
      refine bw_astore_n (i := 2) (lv' := [(2, va_rf r12), (0, va_rf (some x0)), (1, .int x1)]) hx hb d_Br_passSecond_39 rfl hl (by decide) (by simp [bw_cat, cat_i, cat_j]) (fun ls hl => ?_)
      refine bw_aload_n hx hb d_Br_passSecond_40 rfl (lv_at hl 0 rfl) ?_
      obtain ⟨a15, ea15, hq⟩ := hq
      obtain ⟨t16, hq⟩ := hq
      refine bw_getI hx hb ht in_Bt hown hK hW ea15 t16 (by decide) rfl 3 (by decide) rfl (ht _ m_246) (fun _ h => h) d_Br_passSecond_41 ?_
      refine lv_if_eq (tgt := 57) hx hb d_Br_passSecond_44 (by decide) (fun c17 => ?_) (fun c17 => ?_)
      · have hq := hq.1 c17
        exact k_Br_passSecond_57 C hK24 _ _ _ _ _ _ hq _ _ _ _ _ hW (lv_sub hl [1, 2, 0] rfl) hc hs
      · have hq := hq.2 c17
        refine bw_aload_n hx hb d_Br_passSecond_47 rfl (lv_at hl 1 rfl) ?_
        refine bw_aload_n hx hb d_Br_passSecond_48 rfl (lv_at hl 0 rfl) ?_
        obtain ⟨t18, hq⟩ := hq
        obtain ⟨k21, k22, h23, h24, hq⟩ := hq
        refine bw_callV (As := [va_rf r12]) (rest := []) C hW ci_Br_letOut m_568 m_570 sel_Br_letOut d_Br_passSecond_49 rfl t18 (by decide) rfl rfl rfl hl.1 (by decide) ⟨Nat.le_of_ble_eq_true rfl, Nat.le_of_ble_eq_true rfl⟩ ⟨Nat.le_trans (Nat.add_le_add_left h23 _) hc, Nat.le_trans (Nat.add_le_add_left h24 _) hs⟩ (c_Br_letOut hl0 _ _ _ _ _ hq) (fun _ _ _ _ _ _ h => h.elim) (fun v19 w20 H locs hv hW => ?_)
        obtain ⟨rfl, hq⟩ := hv
        have hc := bw_bud hc h23
        have hs := bw_bud hs h24
        refine W.eq (g2 := F0 m 52 ls []) rfl ?_
        refine bw_aload_n hx hb d_Br_passSecond_52 rfl (lv_at hl 1 rfl) ?_
        refine bw_aload_n hx hb d_Br_passSecond_53 rfl (lv_at hl 0 rfl) ?_
        obtain ⟨t26, hq⟩ := hq
        obtain ⟨k29, k30, h31, h32, hq⟩ := hq
        refine bw_callV (As := [va_rf r12]) (rest := []) C hW ci_Br_passOnTo m_611 m_613 sel_Br_passOnTo d_Br_passSecond_54 rfl t26 (by decide) rfl rfl rfl hl.1 (by decide) ⟨Nat.le_of_ble_eq_true rfl, Nat.le_of_ble_eq_true rfl⟩ ⟨Nat.le_trans (Nat.add_le_add_left h31 _) hc, Nat.le_trans (Nat.add_le_add_left h32 _) hs⟩ (c_Br_passOnTo hl0 _ _ _ _ _ hq) (fun _ _ _ _ _ _ h => h.elim) (fun v27 w28 H locs hv hW => ?_)
        obtain ⟨rfl, hq⟩ := hv
        have hc := bw_bud hc h31
        have hs := bw_bud hs h32
        refine W.eq (g2 := F0 m 57 ls []) rfl ?_
        exact k_Br_passSecond_57 C hK24 _ _ _ _ _ _ hq _ _ _ _ _ hW (lv_sub hl [1, 2, 0] rfl) hc hs
def wp_Br_passSecond (e0 mi : Nat) (x0 : Nat) (w : Wd) (nc ns : Nat) (Q : Wd → Prop) : Prop :=
  bw_is w x0 5 ∧ (∃ k4 k5 : Nat, k4 ≤ nc ∧ k5 ≤ ns ∧ wp_Br_tellReads e0 mi x0 (sI w x0 7 ((wI w x0 7) + (1 : Int32))) k4 k5 (fun w3 => bw_is w3 x0 5 ∧ (∃ a10 : Nat, (wR w3 x0 0) = some a10 ∧ (bw_is w3 a10 7 ∧ (wp_Al_size e0 mi a10 w3 (fun i18 w13 => ∀ i19 : Int32, i19 = i18 - (1 : Int32) → (∃ n20 : Nat, wb_Br_passSecond_24 e0 mi Q n20 x0 i19 w13 (nc - k4) (ns - k5))))))))
set_option maxHeartbeats 4000000 in
set_option maxRecDepth 100000 in
theorem k_Br_passSecond_0 {p : Program} {l : Launch} {e : Env} {s : State} {m : MethodId} {args : Array Value} {below : List Frame} {meth : Method} {c : Code} {D : va_G} {AC : Nat → ClassId} {e0 mi : Nat} {A : Nat → Prop} {mc ms : Nat} {Q : Wd → Prop} (C : Cx p l s m args meth c D AC e0 mi A n_Br_passSecond b_Br_passSecond 3 none) (x0 : Nat) (w : Wd) (nc ns : Nat) (hq : wp_Br_passSecond e0 mi x0 w nc ns Q) : ∀ (H : Heap) (locs : List Loc) (cells slots : Nat) (ls : Array Slot), HW D cls8 FTc AC A s.heap H locs w → lv_has ls 3 [(0, va_rf (some x0))] → cells + nc ≤ mc → slots + ns ≤ ms → W p l e { frames := 9, cells := mc, slots := ms, locals := 220 } s m args below meth c H locs cells slots (vx_MQ below (QQ D AC A (fun v w9 => v = none ∧ Q w9)) (XX D AC A (fun _ _ => False)) args s mc ms A) (F0 m 0 ls []) := by
  obtain ⟨hl0, hx, hb, hr, ht, hown, hlocks, hnm, hml, hex, hK, hA, hZ, hV⟩ := id C
  intro H locs cells slots ls hW hl hc hs
  unfold wp_Br_passSecond at hq
  refine bw_aload_n hx hb d_Br_passSecond_0 rfl (lv_at hl 0 rfl) ?_
  refine lv_dup hx hb d_Br_passSecond_1 (bw_cat _) ?_
  obtain ⟨t1, hq⟩ := hq
  refine bw_getI hx hb ht in_Br hown hK hW rfl t1 (by decide) rfl 7 (by decide) rfl (ht _ m_66) (fun _ h => h) d_Br_passSecond_2 ?_
  refine lv_iconst (v := 1) hx hb d_Br_passSecond_5 (by decide) ?_
  refine lv_iadd hx hb d_Br_passSecond_6 ?_
  refine bw_putI hx hb ht in_Br y_Br yk_Br nm_Br hown hK hW rfl t1 (by decide) rfl 7 (by decide) rfl (ht _ m_66) (fun _ h => h) (Or.inl rfl) rfl rfl d_Br_passSecond_7 (fun H locs hW => ?_)
  refine bw_aload_n hx hb d_Br_passSecond_10 rfl (lv_at hl 0 rfl) ?_
  obtain ⟨k4, k5, h6, h7, hq⟩ := hq
  refine bw_callV (As := []) (rest := []) C hW ci_Br_tellReads m_546 m_548 sel_Br_tellReads d_Br_passSecond_11 rfl t1 (by decide) rfl rfl rfl hl.1 (by decide) ⟨Nat.le_of_ble_eq_true rfl, Nat.le_of_ble_eq_true rfl⟩ ⟨Nat.le_trans (Nat.add_le_add_left h6 _) hc, Nat.le_trans (Nat.add_le_add_left h7 _) hs⟩ (c_Br_tellReads hl0 _ _ _ _ hq) (fun _ _ _ _ _ _ h => h.elim) (fun v2 w3 H locs hv hW => ?_)
  obtain ⟨rfl, hq⟩ := hv
  have hc := bw_bud hc h6
  have hs := bw_bud hs h7
  refine W.eq (g2 := F0 m 14 ls []) rfl ?_
  refine bw_aload_n hx hb d_Br_passSecond_14 rfl (lv_at hl 0 rfl) ?_
  obtain ⟨t9, hq⟩ := hq
  refine bw_getR hx hb ht in_Br hown hK hW rfl t9 (by decide) rfl 0 (by decide) rfl (ht _ m_59) (fun _ h => h) d_Br_passSecond_15 ?_
  obtain ⟨a10, ea10, hq⟩ := hq
  obtain ⟨t11, hq⟩ := hq
  refine bw_callV (As := []) (rest := []) C hW ci_Al_size m_91 m_92 m_93 d_Br_passSecond_18 ea10 t11 (by decide) rfl rfl rfl hl.1 (by decide) ⟨Nat.le_of_ble_eq_true rfl, Nat.le_of_ble_eq_true rfl⟩ ⟨Nat.le_trans (Nat.add_le_add_left (Nat.zero_le _) _) hc, Nat.le_trans (Nat.add_le_add_left (Nat.zero_le _) _) hs⟩ (c_Al_size hl0 _ _ hq) (fun _ _ _ _ _ _ h => h.elim) (fun v12 w13 H locs hv hW => ?_)
  obtain ⟨i18, rfl, hq⟩ := hv
  have hc := bw_bud0 hc
  have hs := bw_bud0 hs
  refine W.eq (g2 := F0 m 21 ls [.int i18]) rfl ?_
  refine lv_iconst (v := 1) hx hb d_Br_passSecond_21 (by decide) ?_
  refine lv_isub hx hb d_Br_passSecond_22 ?_
  refine lv_topi (fun i19 ei19 => ?_)
  have hq := hq i19 ei19
  refine lv_istore_n (i := 1) (lv' := [(1, .int i19), (0, va_rf (some x0))]) hx hb d_Br_passSecond_23 rfl hl (by decide) (by simp [bw_cat, cat_i, cat_j]) (fun ls hl => ?_)
  obtain ⟨n20, hq⟩ := hq
  exact k_Br_passSecond_24 C  n20 _ _ _ _ _ hq _ _ _ _ _ hW (lv_sub hl [1, 0] rfl) hc hs
theorem ci_Br_passSecond : CI n_Br_passSecond b_Br_passSecond 3 none 0 := ⟨m_545, m_1, by decide, by decide, by decide +kernel⟩
theorem sel_Br_passSecond : Cond.selects "BeltRows" n_Br_passSecond n_Br_passSecond ∈ TBL := List.mem_filter.mpr ⟨List.mem_append_left _ (List.mem_map.mpr ⟨(n_Br_passSecond, 9), by decide +kernel, rfl⟩), rfl⟩
theorem c_Br_passSecond {l : Launch} {D : va_G} {AC : Nat → ClassId} {e0 mi : Nat} {Q : Wd → Prop} (hl0 : l.stackTraces = false) (x0 : Nat) (w : Wd) (nc ns : Nat) (hq : wp_Br_passSecond e0 mi x0 w nc ns Q) : Ct l D AC e0 mi n_Br_passSecond (wy n_Br_passSecond b_Br_passSecond 3 none) 9 220 [va_rf (some x0)] w nc ns (fun v w9 => v = none ∧ Q w9) (fun _ _ => False) :=
  Ct.of hl0 (by decide) (by simp [lg_sl, bw_cat, cat_i, cat_j]) (fun p e s m args below meth c A ls C hW hl => k_Br_passSecond_0 C x0 w nc ns hq s.heap [] 0 0 ls hW (by simpa [lv_args, bw_cat, cat_i, cat_j] using hl) (Nat.le_of_eq (Nat.zero_add _)) (Nat.le_of_eq (Nat.zero_add _)))
def wp_Br_init (e0 mi : Nat) (x0 : Nat) (w : Wd) (nc ns : Nat) (Q : Wd → Prop) : Prop :=
  1 ≤ nc ∧ 3 ≤ ns ∧ ∀ q1 : Nat, q1 ∉ wL w → (wp_Al_init e0 mi q1 (bw_new w q1 7 0) (fun w7 => bw_is w7 x0 5 ∧ (1 ≤ (nc - 1) ∧ 3 ≤ (ns - 3) ∧ ∀ q14 : Nat, q14 ∉ wL (sR w7 x0 0 (some q1)) → (wp_Al_init e0 mi q14 (bw_new (sR w7 x0 0 (some q1)) q14 7 0) (fun w20 => bw_is w20 x0 5 ∧ (1 ≤ ((nc - 1) - 1) ∧ 3 ≤ ((ns - 3) - 3) ∧ ∀ q27 : Nat, q27 ∉ wL (sR w20 x0 1 (some q14)) → (wp_Al_init e0 mi q27 (bw_new (sR w20 x0 1 (some q14)) q27 7 0) (fun w33 => bw_is w33 x0 5 ∧ (1 ≤ (((nc - 1) - 1) - 1) ∧ 3 ≤ (((ns - 3) - 3) - 3) ∧ ∀ q40 : Nat, q40 ∉ wL (sR w33 x0 2 (some q27)) → (wp_Al_init e0 mi q40 (bw_new (sR w33 x0 2 (some q27)) q40 7 0) (fun w46 => bw_is w46 x0 5 ∧ (1 ≤ ((((nc - 1) - 1) - 1) - 1) ∧ 3 ≤ ((((ns - 3) - 3) - 3) - 3) ∧ ∀ q53 : Nat, q53 ∉ wL (sR w46 x0 3 (some q40)) → (wp_Al_init e0 mi q53 (bw_new (sR w46 x0 3 (some q40)) q53 7 0) (fun w59 => bw_is w59 x0 5 ∧ (1 ≤ (((((nc - 1) - 1) - 1) - 1) - 1) ∧ 3 ≤ (((((ns - 3) - 3) - 3) - 3) - 3) ∧ ∀ q66 : Nat, q66 ∉ wL (sR w59 x0 4 (some q53)) → (wp_Al_init e0 mi q66 (bw_new (sR w59 x0 4 (some q53)) q66 7 0) (fun w72 => bw_is w72 x0 5 ∧ (Q (sI (sI (sI (sR w72 x0 5 (some q66)) x0 6 (100 : Int32)) x0 7 (0 : Int32)) x0 8 (0 : Int32))))))))))))))))))))
set_option maxHeartbeats 4000000 in
set_option maxRecDepth 100000 in
theorem k_Br_init_0 {p : Program} {l : Launch} {e : Env} {s : State} {m : MethodId} {args : Array Value} {below : List Frame} {meth : Method} {c : Code} {D : va_G} {AC : Nat → ClassId} {e0 mi : Nat} {A : Nat → Prop} {mc ms : Nat} {Q : Wd → Prop} (C : Cx p l s m args meth c D AC e0 mi A n_Br_init b_Br_init 1 none) (x0 : Nat) (w : Wd) (nc ns : Nat) (hq : wp_Br_init e0 mi x0 w nc ns Q) : ∀ (H : Heap) (locs : List Loc) (cells slots : Nat) (ls : Array Slot), HW D cls8 FTc AC A s.heap H locs w → lv_has ls 1 [(0, va_rf (some x0))] → cells + nc ≤ mc → slots + ns ≤ ms → W p l e { frames := 4, cells := mc, slots := ms, locals := 100 } s m args below meth c H locs cells slots (vx_MQ below (QQ D AC A (fun v w9 => v = none ∧ Q w9)) (XX D AC A (fun _ _ => False)) args s mc ms A) (F0 m 0 ls []) := by
  obtain ⟨hl0, hx, hb, hr, ht, hown, hlocks, hnm, hml, hex, hK, hA, hZ, hV⟩ := id C
  intro H locs cells slots ls hW hl hc hs
  unfold wp_Br_init at hq
  refine bw_aload_n hx hb d_Br_init_0 rfl (lv_at hl 0 rfl) ?_
  refine W.objInit hx hb hown (ht _ m_30) (ht _ m_31) (ht _ m_32) rfl (by rw [hml]; exact hl.1) rfl d_Br_init_1 (Nat.le_of_ble_eq_true rfl) (Nat.le_of_ble_eq_true rfl) ?_
  refine W.eq (g2 := F0 m 4 ls []) rfl ?_
  refine bw_aload_n hx hb d_Br_init_4 rfl (lv_at hl 0 rfl) ?_
  obtain ⟨h2, h3, hq⟩ := hq
  refine bw_mk (ci := 7) hx hb ht in_Al y_Al yk_Al hown (ht _ m_33) (ht _ m_34) (ht _ m_4) hK hW hA (by decide) (by rfl) df_Al (Nat.le_trans (Nat.add_le_add_left h2 _) hc) (Nat.le_trans (Nat.add_le_add_left h3 _) hs) d_Br_init_5 (fun q1 H n4 hW => ?_)
  have hq := hq q1 n4
  have hc := bw_bud hc h2
  have hs := bw_bud hs h3
  have t5 : bw_is (bw_new w q1 7 0) q1 7 := bw_is_self _ _ _ _
  refine lv_dup hx hb d_Br_init_8 (bw_cat _) ?_
  refine bw_callI (As := []) (rest := [va_rf (some q1), va_rf (some x0)]) C hW ci_Al_init rfl m_35 m_36 d_Br_init_9 rfl rfl hl.1 (by simp [bw_cat, cat_i, cat_j]) ⟨Nat.le_of_ble_eq_true rfl, Nat.le_of_ble_eq_true rfl⟩ ⟨Nat.le_trans (Nat.add_le_add_left (Nat.zero_le _) _) hc, Nat.le_trans (Nat.add_le_add_left (Nat.zero_le _) _) hs⟩ (c_Al_init hl0 _ _ hq) (fun v6 w7 H locs hv hW => ?_)
  obtain ⟨rfl, hq⟩ := hv
  have hc := bw_bud0 hc
  have hs := bw_bud0 hs
  refine W.eq (g2 := F0 m 12 ls [va_rf (some q1), va_rf (some x0)]) rfl ?_
  obtain ⟨t13, hq⟩ := hq
  refine bw_putR hx hb ht in_Br y_Br yk_Br nm_Br hown hK hW rfl t13 (by decide) rfl 0 (by decide) rfl (ht _ m_59) (fun _ h => h) (Or.inr ⟨rfl, hnm, rfl⟩) (bw_nr _ _) (bw_fr _ _) d_Br_init_12 (fun H locs hW => ?_)
  refine bw_aload_n hx hb d_Br_init_15 rfl (lv_at hl 0 rfl) ?_
  obtain ⟨h15, h16, hq⟩ := hq
  refine bw_mk (ci := 7) hx hb ht in_Al y_Al yk_Al hown (ht _ m_33) (ht _ m_34) (ht _ m_4) hK hW hA (by decide) (by rfl) df_Al (Nat.le_trans (Nat.add_le_add_left h15 _) hc) (Nat.le_trans (Nat.add_le_add_left h16 _) hs) d_Br_init_16 (fun q14 H n17 hW => ?_)
  have hq := hq q14 n17
  have hc := bw_bud hc h15
  have hs := bw_bud hs h16
  have t13 := bw_is_new (kd := 7) (n := 0) n17 t13
  have t18 : bw_is (bw_new (sR w7 x0 0 (some q1)) q14 7 0) q14 7 := bw_is_self _ _ _ _
  refine lv_dup hx hb d_Br_init_19 (bw_cat _) ?_
  refine bw_callI (As := []) (rest := [va_rf (some q14), va_rf (some x0)]) C hW ci_Al_init rfl m_35 m_36 d_Br_init_20 rfl rfl hl.1 (by simp [bw_cat, cat_i, cat_j]) ⟨Nat.le_of_ble_eq_true rfl, Nat.le_of_ble_eq_true rfl⟩ ⟨Nat.le_trans (Nat.add_le_add_left (Nat.zero_le _) _) hc, Nat.le_trans (Nat.add_le_add_left (Nat.zero_le _) _) hs⟩ (c_Al_init hl0 _ _ hq) (fun v19 w20 H locs hv hW => ?_)
  obtain ⟨rfl, hq⟩ := hv
  have hc := bw_bud0 hc
  have hs := bw_bud0 hs
  refine W.eq (g2 := F0 m 23 ls [va_rf (some q14), va_rf (some x0)]) rfl ?_
  obtain ⟨t26, hq⟩ := hq
  refine bw_putR hx hb ht in_Br y_Br yk_Br nm_Br hown hK hW rfl t26 (by decide) rfl 1 (by decide) rfl (ht _ m_60) (fun _ h => h) (Or.inr ⟨rfl, hnm, rfl⟩) (bw_nr _ _) (bw_fr _ _) d_Br_init_23 (fun H locs hW => ?_)
  refine bw_aload_n hx hb d_Br_init_26 rfl (lv_at hl 0 rfl) ?_
  obtain ⟨h28, h29, hq⟩ := hq
  refine bw_mk (ci := 7) hx hb ht in_Al y_Al yk_Al hown (ht _ m_33) (ht _ m_34) (ht _ m_4) hK hW hA (by decide) (by rfl) df_Al (Nat.le_trans (Nat.add_le_add_left h28 _) hc) (Nat.le_trans (Nat.add_le_add_left h29 _) hs) d_Br_init_27 (fun q27 H n30 hW => ?_)
  have hq := hq q27 n30
  have hc := bw_bud hc h28
  have hs := bw_bud hs h29
  have t26 := bw_is_new (kd := 7) (n := 0) n30 t26
  have t31 : bw_is (bw_new (sR w20 x0 1 (some q14)) q27 7 0) q27 7 := bw_is_self _ _ _ _
  refine lv_dup hx hb d_Br_init_30 (bw_cat _) ?_
  refine bw_callI (As := []) (rest := [va_rf (some q27), va_rf (some x0)]) C hW ci_Al_init rfl m_35 m_36 d_Br_init_31 rfl rfl hl.1 (by simp [bw_cat, cat_i, cat_j]) ⟨Nat.le_of_ble_eq_true rfl, Nat.le_of_ble_eq_true rfl⟩ ⟨Nat.le_trans (Nat.add_le_add_left (Nat.zero_le _) _) hc, Nat.le_trans (Nat.add_le_add_left (Nat.zero_le _) _) hs⟩ (c_Al_init hl0 _ _ hq) (fun v32 w33 H locs hv hW => ?_)
  obtain ⟨rfl, hq⟩ := hv
  have hc := bw_bud0 hc
  have hs := bw_bud0 hs
  refine W.eq (g2 := F0 m 34 ls [va_rf (some q27), va_rf (some x0)]) rfl ?_
  obtain ⟨t39, hq⟩ := hq
  refine bw_putR hx hb ht in_Br y_Br yk_Br nm_Br hown hK hW rfl t39 (by decide) rfl 2 (by decide) rfl (ht _ m_61) (fun _ h => h) (Or.inr ⟨rfl, hnm, rfl⟩) (bw_nr _ _) (bw_fr _ _) d_Br_init_34 (fun H locs hW => ?_)
  refine bw_aload_n hx hb d_Br_init_37 rfl (lv_at hl 0 rfl) ?_
  obtain ⟨h41, h42, hq⟩ := hq
  refine bw_mk (ci := 7) hx hb ht in_Al y_Al yk_Al hown (ht _ m_33) (ht _ m_34) (ht _ m_4) hK hW hA (by decide) (by rfl) df_Al (Nat.le_trans (Nat.add_le_add_left h41 _) hc) (Nat.le_trans (Nat.add_le_add_left h42 _) hs) d_Br_init_38 (fun q40 H n43 hW => ?_)
  have hq := hq q40 n43
  have hc := bw_bud hc h41
  have hs := bw_bud hs h42
  have t39 := bw_is_new (kd := 7) (n := 0) n43 t39
  have t44 : bw_is (bw_new (sR w33 x0 2 (some q27)) q40 7 0) q40 7 := bw_is_self _ _ _ _
  refine lv_dup hx hb d_Br_init_41 (bw_cat _) ?_
  refine bw_callI (As := []) (rest := [va_rf (some q40), va_rf (some x0)]) C hW ci_Al_init rfl m_35 m_36 d_Br_init_42 rfl rfl hl.1 (by simp [bw_cat, cat_i, cat_j]) ⟨Nat.le_of_ble_eq_true rfl, Nat.le_of_ble_eq_true rfl⟩ ⟨Nat.le_trans (Nat.add_le_add_left (Nat.zero_le _) _) hc, Nat.le_trans (Nat.add_le_add_left (Nat.zero_le _) _) hs⟩ (c_Al_init hl0 _ _ hq) (fun v45 w46 H locs hv hW => ?_)
  obtain ⟨rfl, hq⟩ := hv
  have hc := bw_bud0 hc
  have hs := bw_bud0 hs
  refine W.eq (g2 := F0 m 45 ls [va_rf (some q40), va_rf (some x0)]) rfl ?_
  obtain ⟨t52, hq⟩ := hq
  refine bw_putR hx hb ht in_Br y_Br yk_Br nm_Br hown hK hW rfl t52 (by decide) rfl 3 (by decide) rfl (ht _ m_62) (fun _ h => h) (Or.inr ⟨rfl, hnm, rfl⟩) (bw_nr _ _) (bw_fr _ _) d_Br_init_45 (fun H locs hW => ?_)
  refine bw_aload_n hx hb d_Br_init_48 rfl (lv_at hl 0 rfl) ?_
  obtain ⟨h54, h55, hq⟩ := hq
  refine bw_mk (ci := 7) hx hb ht in_Al y_Al yk_Al hown (ht _ m_33) (ht _ m_34) (ht _ m_4) hK hW hA (by decide) (by rfl) df_Al (Nat.le_trans (Nat.add_le_add_left h54 _) hc) (Nat.le_trans (Nat.add_le_add_left h55 _) hs) d_Br_init_49 (fun q53 H n56 hW => ?_)
  have hq := hq q53 n56
  have hc := bw_bud hc h54
  have hs := bw_bud hs h55
  have t52 := bw_is_new (kd := 7) (n := 0) n56 t52
  have t57 : bw_is (bw_new (sR w46 x0 3 (some q40)) q53 7 0) q53 7 := bw_is_self _ _ _ _
  refine lv_dup hx hb d_Br_init_52 (bw_cat _) ?_
  refine bw_callI (As := []) (rest := [va_rf (some q53), va_rf (some x0)]) C hW ci_Al_init rfl m_35 m_36 d_Br_init_53 rfl rfl hl.1 (by simp [bw_cat, cat_i, cat_j]) ⟨Nat.le_of_ble_eq_true rfl, Nat.le_of_ble_eq_true rfl⟩ ⟨Nat.le_trans (Nat.add_le_add_left (Nat.zero_le _) _) hc, Nat.le_trans (Nat.add_le_add_left (Nat.zero_le _) _) hs⟩ (c_Al_init hl0 _ _ hq) (fun v58 w59 H locs hv hW => ?_)
  obtain ⟨rfl, hq⟩ := hv
  have hc := bw_bud0 hc
  have hs := bw_bud0 hs
  refine W.eq (g2 := F0 m 56 ls [va_rf (some q53), va_rf (some x0)]) rfl ?_
  obtain ⟨t65, hq⟩ := hq
  refine bw_putR hx hb ht in_Br y_Br yk_Br nm_Br hown hK hW rfl t65 (by decide) rfl 4 (by decide) rfl (ht _ m_63) (fun _ h => h) (Or.inr ⟨rfl, hnm, rfl⟩) (bw_nr _ _) (bw_fr _ _) d_Br_init_56 (fun H locs hW => ?_)
  refine bw_aload_n hx hb d_Br_init_59 rfl (lv_at hl 0 rfl) ?_
  obtain ⟨h67, h68, hq⟩ := hq
  refine bw_mk (ci := 7) hx hb ht in_Al y_Al yk_Al hown (ht _ m_33) (ht _ m_34) (ht _ m_4) hK hW hA (by decide) (by rfl) df_Al (Nat.le_trans (Nat.add_le_add_left h67 _) hc) (Nat.le_trans (Nat.add_le_add_left h68 _) hs) d_Br_init_60 (fun q66 H n69 hW => ?_)
  have hq := hq q66 n69
  have hc := bw_bud hc h67
  have hs := bw_bud hs h68
  have t65 := bw_is_new (kd := 7) (n := 0) n69 t65
  have t70 : bw_is (bw_new (sR w59 x0 4 (some q53)) q66 7 0) q66 7 := bw_is_self _ _ _ _
  refine lv_dup hx hb d_Br_init_63 (bw_cat _) ?_
  refine bw_callI (As := []) (rest := [va_rf (some q66), va_rf (some x0)]) C hW ci_Al_init rfl m_35 m_36 d_Br_init_64 rfl rfl hl.1 (by simp [bw_cat, cat_i, cat_j]) ⟨Nat.le_of_ble_eq_true rfl, Nat.le_of_ble_eq_true rfl⟩ ⟨Nat.le_trans (Nat.add_le_add_left (Nat.zero_le _) _) hc, Nat.le_trans (Nat.add_le_add_left (Nat.zero_le _) _) hs⟩ (c_Al_init hl0 _ _ hq) (fun v71 w72 H locs hv hW => ?_)
  obtain ⟨rfl, hq⟩ := hv
  have hc := bw_bud0 hc
  have hs := bw_bud0 hs
  refine W.eq (g2 := F0 m 67 ls [va_rf (some q66), va_rf (some x0)]) rfl ?_
  obtain ⟨t78, hq⟩ := hq
  refine bw_putR hx hb ht in_Br y_Br yk_Br nm_Br hown hK hW rfl t78 (by decide) rfl 5 (by decide) rfl (ht _ m_64) (fun _ h => h) (Or.inr ⟨rfl, hnm, rfl⟩) (bw_nr _ _) (bw_fr _ _) d_Br_init_67 (fun H locs hW => ?_)
  refine bw_aload_n hx hb d_Br_init_70 rfl (lv_at hl 0 rfl) ?_
  refine lv_bipush (v := 100) hx hb d_Br_init_71 (by decide) ?_
  refine bw_putI hx hb ht in_Br y_Br yk_Br nm_Br hown hK hW rfl t78 (by decide) rfl 6 (by decide) rfl (ht _ m_65) (fun _ h => h) (Or.inl rfl) rfl rfl d_Br_init_73 (fun H locs hW => ?_)
  refine bw_aload_n hx hb d_Br_init_76 rfl (lv_at hl 0 rfl) ?_
  refine lv_iconst (v := 0) hx hb d_Br_init_77 (by decide) ?_
  refine bw_putI hx hb ht in_Br y_Br yk_Br nm_Br hown hK hW rfl t78 (by decide) rfl 7 (by decide) rfl (ht _ m_66) (fun _ h => h) (Or.inl rfl) rfl rfl d_Br_init_78 (fun H locs hW => ?_)
  refine bw_aload_n hx hb d_Br_init_81 rfl (lv_at hl 0 rfl) ?_
  refine lv_iconst (v := 0) hx hb d_Br_init_82 (by decide) ?_
  refine bw_putI hx hb ht in_Br y_Br yk_Br nm_Br hown hK hW rfl t78 (by decide) rfl 8 (by decide) rfl (ht _ m_67) (fun _ h => h) (Or.inl rfl) rfl rfl d_Br_init_83 (fun H locs hW => ?_)
  exact bw_vret C hW ⟨rfl, hq⟩ d_Br_init_86 (Nat.le_trans (Nat.le_add_right _ _) hc) (Nat.le_trans (Nat.le_add_right _ _) hs)
theorem ci_Br_init : CI n_Br_init b_Br_init 1 none 0 := ⟨m_29, m_1, by decide, by decide, by decide +kernel⟩
theorem c_Br_init {l : Launch} {D : va_G} {AC : Nat → ClassId} {e0 mi : Nat} {Q : Wd → Prop} (hl0 : l.stackTraces = false) (x0 : Nat) (w : Wd) (nc ns : Nat) (hq : wp_Br_init e0 mi x0 w nc ns Q) : Ct l D AC e0 mi n_Br_init (wy n_Br_init b_Br_init 1 none) 4 100 [va_rf (some x0)] w nc ns (fun v w9 => v = none ∧ Q w9) (fun _ _ => False) :=
  Ct.of hl0 (by decide) (by simp [lg_sl, bw_cat, cat_i, cat_j]) (fun p e s m args below meth c A ls C hW hl => k_Br_init_0 C x0 w nc ns hq s.heap [] 0 0 ls hW (by simpa [lv_args, bw_cat, cat_i, cat_j] using hl) (Nat.le_of_eq (Nat.zero_add _)) (Nat.le_of_eq (Nat.zero_add _)))
end
section
/-! 'throw new NoSuchElementException("..")': its constructor hands on to RuntimeException's by another entry of its pool (13) than those of java.lang (7); after the way of the library's Stand.ctorThrowS (JvmDerived/BundleOwnThrow.lean), with the first class's code and entry free, and of the cell only what a throw needs -/
def nx_atoms (own : String) (ic : Nat) (X : String) (ix : Nat) (rx : ByteArray) (Y : String) (names : List String) : List Cond :=
  Bundle.throwableAtoms ++ Bundle.throwableSAtoms ++ (Bundle.passSAtoms X Y ix rx ++ Bundle.chainSAtoms Y names) ++
  [.methodLink own ic (Bundle.initS X), .instantiable X 6, .castable X X, .selects X Bundle.tFill0 Bundle.tFill0, .selects X Bundle.tFill Bundle.tFill,
   .lays X Bundle.tN "cause" "Ljava/lang/Throwable;", .lays X Bundle.tN "stackTrace" Bundle.steD, .lays X Bundle.tN "suppressedExceptions" Bundle.listD, .lays X Bundle.tN "detailMessage" "Ljava/lang/String;",
   .isRef (.static Bundle.tN "UNASSIGNED_STACK" Bundle.steD), .isRef (.static Bundle.tN "SUPPRESSED_SENTINEL" Bundle.listD),
   .fieldLink Bundle.tN 198 Bundle.tN "backtrace" "Ljava/lang/Object;", .lays Bundle.tN Bundle.tN "backtrace" "Ljava/lang/Object;", .lays X Bundle.tN "backtrace" "Ljava/lang/Object;"]
section NX
variable {p : Program} {l : Launch} {e : Env} {R : Room} {s : State} {m₀ : MethodId} {args : Array Value} {below : List Frame} {meth : Method} {c : Code} {W : State} {locs : List Loc} {cells slots : Nat}
set_option maxHeartbeats 1000000 in
theorem nx_ctor (X : Stand p l e R s m₀ args below meth c W locs cells slots) (hexec : p.tables.exec = Jvm.exec) (htr : e.platform.stackTraces = false) {own cls Y0 : String} {names : List String} {ic ix : Nat} {rx : ByteArray}
    (x0 : decode rx 0 = .ok (.aload_n 0, 1)) (x1 : decode rx 1 = .ok (.aload_n 1, 1)) (x2 : decode rx 2 = .ok (.invokespecial ix, 3)) (x5 : decode rx 5 = .ok (.return_, 1))
    (hown : s.vm.findClass own = some m₀.cls) (hcls : Bundle.fit cls = true) (hY0 : Bundle.fit Y0 = true) (hnames : ∀ n ∈ names, Bundle.fit n = true)
    (h : ∀ a ∈ nx_atoms own ic cls ix rx Y0 names, a.before args s = true)
    (hlocs : ∀ x ∈ locs, ∀ cell, s.heap[x.base]? = some cell → cell.vm.isStatics = false)
    {a : Addr} {cX : ClassId} {kX : Class} (hfoundX : s.vm.findClass cls = some cX) (hkX : s.vm.classes[cX]? = some kX) (hcell : W.heap[a]? = some (freshCell cX kX)) (hnew : s.heap.size ≤ a)
    {msg : Value} (hmsg : msg.isRef = true)
    {g : JFrame} (hg : g.method = m₀) (hsize : g.locals.size = c.maxLocals) (hlocked : g.locked = none) (hentered : g.entered = []) {rest : List Value} (hstack : g.stack = msg :: .ref a :: .ref a :: rest)
    (hd6 : decode c.code g.pc = .ok (.invokespecial ic, 3)) (hd9 : decode c.code (g.pc + 3) = .ok (.athrow, 1)) (hout : ∀ x ∈ c.exceptionTable.toList, covers x (g.pc + 3) = false)
    (hRframes : names.length + 4 < R.frames) (hRlocals : 2 * g.monitorRoom + ((Value.ref a :: rest).map fun v => v.category).sum + (13 * (names.length + 1 + 1) + 42) ≤ R.locals) (hlocks : meth.locks = false) :
    ∃ U : State, Steps p.tables e below (W.setTop g) U ∧ U.status = .running ∧ Ended U below (.threw a) ∧ s.WarmedH U.vm ∧ s.sameButNew ({ U with vm := s.vm } : State) locs cells slots ∧
      ∃ ce : Cell, U.heap[a]? = some ce ∧ s.vm.findClass cls = some ce.cls ∧ ce.vm = .none := by
  have howns : e.platform.frameOwnsMonitors = true := by rw [X.admits.platform]
  have hfin : e.platform.finalization = false := by rw [X.admits.platform]
  have hpl : e.platform.magicAccessors = ({} : Platform).magicAccessors := by rw [X.admits.platform]
  have a' : ∀ x, x ∈ nx_atoms own ic cls ix rx Y0 names → x.holds args s none s [] = true := fun x hx => h x hx
  obtain ⟨T, Z0, L, -, Y⟩ := ThrowableC.of_atoms (args := args) howns hfin hpl (fun x hx => h x (by simp [nx_atoms, hx]))
  obtain ⟨Z, M, LZ, LM, hnZ⟩ := Init0T.ofS_atoms (args := args) hpl L Y (fun x hx => h x (by simp [nx_atoms, hx]))
  obtain ⟨P1, L1, hP1m, hsup0⟩ := PassC.ofS_atoms (args := args) (s := s) hpl (X := cls) (Y := Y0) (Bundle.fit_spec hcls).1 (Bundle.fit_spec hY0).2 x0 x1 x2 x5 (fun x hx => h x (by simp [nx_atoms, hx]))
  obtain ⟨P2, Ps, hlen, L2, hL, hP2m, hsup2, hpass⟩ := Bundle.chainS (args := args) hpl hnZ names Y0 hY0 hnames (fun x hx => h x (by simp [nx_atoms, hx]))
  have hlink1 : P1.sup = P2.m := Option.some.inj (hsup0.symm.trans hP2m)
  have hfound : s.vm.findClass cls = some P1.m.cls := findClass_of_methodNamed hP1m
  cases Option.some.inj (hfoundX.symm.trans hfound)
  obtain ⟨c1, kX', hc1, hk, hord, -, -, hn6⟩ := Cond.instantiable_spec (a' (.instantiable cls 6) (by simp [nx_atoms]))
  cases Option.some.inj (hc1.symm.trans hfound)
  cases Option.some.inj (hkX.symm.trans hk)
  have hsel0 : selectMethod e.platform s.vm P1.m.cls T.fill0 = .method T.fill0 := by
    obtain ⟨c2, r2, m2, q1, q2, q3, q4, -⟩ := Cond.selects_spec (a' (.selects cls Bundle.tFill0 Bundle.tFill0) (by simp [nx_atoms]))
    cases Option.some.inj (q1.symm.trans hfound)
    cases Option.some.inj (q2.symm.trans (State.methodFound?_of_named Y.fill0 (by decide)))
    cases Option.some.inj (q3.symm.trans Y.fill0)
    rw [Launch.admits_selectMethod X.admits]; exact q4
  have hselF : selectMethod e.platform s.vm P1.m.cls T.fill = .method T.fill := by
    obtain ⟨c2, r2, m2, q1, q2, q3, q4, -⟩ := Cond.selects_spec (a' (.selects cls Bundle.tFill Bundle.tFill) (by simp [nx_atoms]))
    cases Option.some.inj (q1.symm.trans hfound)
    cases Option.some.inj (q2.symm.trans (State.methodFound?_of_named Y.fill (by decide)))
    cases Option.some.inj (q3.symm.trans Y.fill)
    rw [Launch.admits_selectMethod X.admits]; exact q4
  obtain ⟨cellS0, hcS0, hiss⟩ := Y.statics
  obtain ⟨u0, hu0⟩ := Cond.staticRefV Y.unassigned L.unassignedStatic L.statics hcS0 hiss (a' (.isRef (.static Bundle.tN "UNASSIGNED_STACK" Bundle.steD)) (by simp [nx_atoms]))
  obtain ⟨sen, hsen⟩ := Cond.staticRefV Y.sentinel L.sentinelStatic L.statics hcS0 hiss (a' (.isRef (.static Bundle.tN "SUPPRESSED_SENTINEL" Bundle.listD)) (by simp [nx_atoms]))
  obtain ⟨ci198, i198, fB, hk198, hg198, ha198, hsB, -, hnB, htB, hffB⟩ := Cond.ownField (t := .object "java/lang/Object") Y.found L.cls (by decide +kernel) (a' (.fieldLink Bundle.tN 198 Bundle.tN "backtrace" "Ljava/lang/Object;") (by simp [nx_atoms])) (a' (.lays Bundle.tN Bundle.tN "backtrace" "Ljava/lang/Object;") (by simp [nx_atoms])) e.platform hpl
  obtain ⟨cellS, hcS', heS, -, hkeep⟩ := X.same.2.2.2.2.2 T.aS cellS0 hcS0
  have hcellS : W.heap[T.aS]? = some cellS := hcS'
  have hout' : ∀ i, (⟨T.aS, i⟩ : Loc) ∉ locs := fun i hmem => by
    have := hlocs _ hmem cellS0 hcS0
    rw [hiss] at this; cases this
  have hknownS : cellS.vm ≠ .unknown := by
    rw [heS]; intro hu
    rw [show cellS0.vm = .unknown from hu] at hiss
    cases hiss
  have hneS : T.aS ≠ a := Nat.ne_of_lt (Nat.lt_of_lt_of_le (Array.getElem?_eq_some_iff.mp hcS0).1 hnew)
  obtain ⟨iM, hffM⟩ := Y.msg
  obtain ⟨tyC, dC, hdC, hdnC⟩ := Cond.laysAt hfound hk Y.cause (a' (.lays cls Bundle.tN "cause" "Ljava/lang/Throwable;") (by simp [nx_atoms]))
  obtain ⟨tyS, dS, hdS, hdnS⟩ := Cond.laysAt hfound hk Y.stack (a' (.lays cls Bundle.tN "stackTrace" Bundle.steD) (by simp [nx_atoms]))
  obtain ⟨tyP, dP, hdP, hdnP⟩ := Cond.laysAt hfound hk Y.supp (a' (.lays cls Bundle.tN "suppressedExceptions" Bundle.listD) (by simp [nx_atoms]))
  obtain ⟨tyM, dM, hdM, hdnM⟩ := Cond.laysAt hfound hk hffM (a' (.lays cls Bundle.tN "detailMessage" "Ljava/lang/String;") (by simp [nx_atoms]))
  obtain ⟨tyB, dB, hdB, hdnB⟩ := Cond.laysAt hfound hk hffB (a' (.lays cls Bundle.tN "backtrace" "Ljava/lang/Object;") (by simp [nx_atoms]))
  have bC := Cond.laysApart hdB hdC hdnB hdnC (by rw [hnB, Y.causeName]; decide)
  have bS := Cond.laysApart hdB hdS hdnB hdnS (by rw [hnB, Y.stackName]; decide)
  have bP := Cond.laysApart hdB hdP hdnB hdnP (by rw [hnB, Y.suppName]; decide)
  have hskip : SkipFacts T e.platform s (fun u => u) u0 ((preparedCellV T.toThrowableT (freshCell P1.m.cls kX) a u0 sen).withEntry W.cur) :=
    ⟨{ ci198 := ci198, i198 := i198, fBack := fB }, ⟨hk198, hg198, ha198, hsB⟩, by
      have := fresh_default (c := P1.m.cls) tyB
      rw [htB] at this
      simpa [preparedCellV, Cell.setSlot, Cell.withEntry, Array.getElem?_setIfInBounds, bC, bS, bP, bC.symm, bS.symm, bP.symm, defaultValue] using this, fun _ _ => rfl⟩
  obtain ⟨tm, methC, cdC, kC, vm₁, hnC, -, -, -, -, -, -, -, hW₁, st1⟩ := Steps.initColdS (tb := p.tables) (e := e) (below := below) (s := s) (U := W) X.here hexec X.warmed hpl hown (t := Bundle.initS cls) rfl rfl (Bundle.fit_spec hcls).2
    (a' (.methodLink own ic (Bundle.initS cls)) (by simp [nx_atoms])) (h (.instanceMethod (Bundle.initS cls)) (by simp [nx_atoms, Bundle.passSAtoms])) (bytes := rx) (maxL := 2) (h (.code (Bundle.initS cls) rx 2 none) (by simp [nx_atoms, Bundle.passSAtoms]))
    (f := g) hg (a := a) (msg := msg) (rest := .ref a :: rest) hstack hd6
  cases Option.some.inj (hnC.symm.trans hP1m)
  have X₁ := X.noted hW₁
  obtain ⟨vm₂, X₂, st2⟩ := X₁.ctorMessageOffV hexec (g := { g with stack := .ref a :: rest }) hg hsize T L Z LZ M LM (P1 :: P2 :: Ps)
    (fun P hP => by rcases List.mem_cons.mp hP with rfl | hP; exact L1; rcases List.mem_cons.mp hP with rfl | hP; exact L2; exact hL P hP) ⟨hlink1, hsup2, hpass⟩ (u0 := u0) (sen := sen) (self := a) hmsg (cell := freshCell P1.m.cls kX) (cellS := cellS)
    hcell (fun _ => by simp) (by simp) rfl rfl hsel0 hselF hcellS hneS hknownS (by rw [hkeep _ (hout' _)]; exact hu0) (by rw [hkeep _ (hout' _)]; exact hsen)
    (Takes.of_laid hk hord tyC (by rw [Y.causeType]; rfl)) (Takes.of_laid hk hord tyS (by rw [Y.stackType]; exact fits_refV_array _ u0)) (Takes.of_laid hk hord tyP (by rw [Y.suppType]; exact fits_refV_object _ sen))
    (Takes.of_laid hk hord tyM (by rw [Y.msgType]; exact fits_refV_object _ ⟨msg, hmsg⟩)) Y.objLocals hskip htr [] hd6
    (by simp only [List.length_cons, hlen]; omega) (by simp only [List.length_cons, hlen]; exact hRlocals)
  obtain ⟨hwalk, hrun, hended, hWU, hsame⟩ := X₂.athrowLeaves hexec (g := { g with stack := .ref a :: rest, pc := g.pc + 3 }) hg hlocked hentered hout (a := a) (rest := rest) rfl hd9
  obtain ⟨c3, c4, hc3, hc4, hasg⟩ := Cond.castable_spec (a' (.castable cls cls) (by simp [nx_atoms]))
  cases Option.some.inj (hc3.symm.trans hfound)
  cases Option.some.inj (hc4.symm.trans hfound)
  have hlt : a < ((W.setVm vm₁).setVm vm₂).heap.size := (Array.getElem?_eq_some_iff.mp hcell).1
  have hU := heapAt_setCell_self (s := (W.setVm vm₁).setVm vm₂) (plainBareV T.toThrowableT (freshCell P1.m.cls kX) a u0 sen msg) hlt
  refine ⟨_, st1 _ (fun acts => ?_), hrun, hended, hWU, hsame.weaken (fun y hy hlt' => ?_) (Nat.le_refl _) (Nat.le_refl _), _, hU, hfound, rfl⟩
  · rw [doInvoke_state]
    exact st2 _ hwalk
  · rcases List.mem_append.mp hy with h1 | h1
    · exact h1
    · exfalso
      have hb : y.base = a := by
        simp only [List.mem_cons, List.not_mem_nil, or_false] at h1
        rcases h1 with rfl | rfl | rfl | rfl | rfl <;> rfl
      rw [hb] at hlt'
      exact Nat.not_lt.mpr hnew hlt'
end NX
end
section
/-- the words of such a throw but the four that speak of the heap -/
def nx_at (own : String) (ic : Nat) (X : String) (ix : Nat) (rx : ByteArray) (Y : String) (names : List String) : List Cond := (nx_atoms own ic X ix rx Y names).filter vx_no
section NXT
variable {p : Program} {l : Launch} {e : Env} {R : Room} {s : State} {m : MethodId} {args : Array Value} {below : List Frame} {meth : Method} {c : Code} {H : Heap} {locs : List Loc} {cells slots : Nat} {free : Addr → Prop} {ls : Array Slot} {rest : List Value} {Qc : Array Value → State → Outcome → State → Prop} {XC : String → State → State → Prop}
theorem nx_throw {cc : ByteArray} {pc : Nat} (hexec : p.tables.exec = Jvm.exec) (hb : c.code = cc) (hl : l.stackTraces = false) {own cls text : String} {Y0 : String} {names : List String} {ik is ic ix mc ms sa : Nat} {rx : ByteArray} {A : Nat → Prop}
    (hown : s.vm.findClass own = some m.cls) (hcls : Bundle.fit cls = true) (hY0 : Bundle.fit Y0 = true) (hnames : ∀ n ∈ names, Bundle.fit n = true) (x0 : decode rx 0 = .ok (.aload_n 0, 1)) (x1 : decode rx 1 = .ok (.aload_n 1, 1)) (x2 : decode rx 2 = .ok (.invokespecial ix, 3)) (x5 : decode rx 5 = .ok (.return_, 1))
    (hk : (Cond.classLink own ik cls).before args s = true) (hini : (Cond.initialized cls).before args s = true) (hstr : vk_R own is text sa s) (hat : ∀ w ∈ nx_at own ic cls ix rx Y0 names, w.before args s = true)
    (hgood : ∀ w ∈ Cond.classLink own ik cls :: Cond.initialized cls :: nx_at own ic cls ix rx Y0 names, vx_ot w = true)
    (hU : vx_Zq Bundle.tN "UNASSIGNED_STACK" Bundle.steD A s s.heap) (hN : vx_Zq Bundle.tN "SUPPRESSED_SENTINEL" Bundle.listD A s s.heap) (hS : va_S A s.heap H locs) (hsize : ls.size = c.maxLocals)
    (d0 : decode cc pc = .ok (.new ik, 3)) (d3 : decode cc (pc + 3) = .ok (.dup, 1)) (d4 : decode cc (pc + 4) = .ok (.ldc is, 2)) (d6 : decode cc (pc + 6) = .ok (.invokespecial ic, 3)) (d9 : decode cc (pc + 9) = .ok (.athrow, 1))
    (hout : ∀ x ∈ c.exceptionTable.toList, covers x (pc + 9) = false)
    (hRframes : names.length + 4 < R.frames) (hRlocals : (rest.map fun v => v.category).sum + (13 * (names.length + 1 + 1) + 43) ≤ R.locals) (hRcells : cells + 1 ≤ R.cells) (hRslots : slots + 6 ≤ R.slots) (hlocks : meth.locks = false)
    (hx : ∀ t : State, s.vm.Alike t.vm → H.size ≤ t.heap.size → (∀ q : Nat, q < H.size → t.heap[q]? = H[q]?) → XC cls s t)
    (hf : ∀ z ∈ locs, free z.base) (hc : cells + 1 ≤ mc) (hs : slots + 6 ≤ ms) :
    W p l e R s m args below meth c H locs cells slots (vx_MQ below Qc XC args s mc ms free) (F0 m pc ls rest) := by
  intro T hT X
  have htr : e.platform.stackTraces = false := (show e.platform.stackTraces = l.stackTraces by rw [X.admits.platform]).trans hl
  have Y := vx_rebase X (R' := { frames := R.frames, locals := R.locals, cells := 1, slots := 6 }) (Nat.le_refl _) (Nat.le_refl _) hRcells hRslots
  obtain ⟨s', hA⟩ : ∃ z, z = (T.setVm s.vm).setFrames (.invoking m args :: below) := ⟨_, rfl⟩
  rw [← hA] at Y
  have hvm : s'.vm = s.vm := by rw [hA]; rfl
  have hhp : s'.heap = H := by rw [hA]; exact hT
  have hW0 : s.WarmedH s'.vm := by rw [hvm]; exact State.WarmedH.refl s
  have hat' : ∀ w ∈ nx_at own ic cls ix rx Y0 names, w.before args s' = true := fun w hw => vx_ot_at hW0 hvm.symm (hgood w (List.mem_cons_of_mem _ (List.mem_cons_of_mem _ hw))) (hat w hw)
  have hk' : (Cond.classLink own ik cls).before args s' = true := vx_ot_at hW0 hvm.symm (hgood _ List.mem_cons_self) hk
  have hini' : (Cond.initialized cls).before args s' = true := vx_ot_at hW0 hvm.symm (hgood _ (List.mem_cons_of_mem _ List.mem_cons_self)) hini
  have hU' : vx_Zq Bundle.tN "UNASSIGNED_STACK" Bundle.steD A s' s'.heap := by rw [hhp]; exact vx_Zq.moved hW0.alike (hU.kept hS.2.1)
  have hN' : vx_Zq Bundle.tN "SUPPRESSED_SENTINEL" Bundle.listD A s' s'.heap := by rw [hhp]; exact vx_Zq.moved hW0.alike (hN.kept hS.2.1)
  have h : ∀ w ∈ nx_atoms own ic cls ix rx Y0 names, w.before args s' = true := vx_own hat' (vx_isRefq hU'.1) (vx_isRefq hN'.1) hU'.2.word hN'.2.word
  have hown' : s'.vm.findClass own = some m.cls := by rw [hvm]; exact hown
  have hins : (Cond.instantiable cls 6).before args s' = true := h _ (by simp [nx_atoms])
  obtain ⟨vm₁, cX, kX, hfX, hkX, -, -, X₁, st1⟩ := Y.newCold hexec (own := own) (C := cls) (index := ik) (n := 6) hown' hk' hins hini'
    (g := F0 m pc ls rest) rfl (by rw [hb]; exact d0) (Nat.le_refl _) (Nat.le_refl _)
  generalize hT1 : (T.setVm vm₁).pushCell { cls := cX, slots := kX.instanceTypes.map defaultValue, vm := .none } = T1 at X₁ st1
  have hcat : (Value.ref T.heap.size).category = 1 := rfl
  have hcellA : T1.heap[T.heap.size]? = some (freshCell cX kX) := by rw [← hT1]; exact State.heap_pushCell_size _ _
  have d3' : decode c.code (pc + 3) = .ok (.dup, 1) := by rw [hb]; exact d3
  have d4' : decode c.code (pc + 4) = .ok (.ldc is, 2) := by rw [hb]; exact d4
  have hstr' : vk_R own is text sa s' := vk_R.warm hW0 hstr
  obtain ⟨U, hsteps, hrun, hend, hW, hsame, ce, hce, hO⟩ := nx_ctor X₁ hexec htr (own := own) (cls := cls) (names := names) (ic := ic) x0 x1 x2 x5 hown' hcls hY0 hnames h (fun x hx => nomatch hx) hfX hkX hcellA (by rw [hhp, hT]; exact Nat.le_refl _) (msg := .ref sa) rfl
    (g := { method := m, pc := pc + 6, locals := ls, stack := .ref sa :: .ref T.heap.size :: .ref T.heap.size :: rest, locked := none }) rfl hsize rfl rfl (rest := rest) rfl
    (by rw [hb]; exact d6) (by rw [hb]; exact d9) hout hRframes (by simp only [List.map_cons, List.sum_cons, hcat]; omega) hlocks
  obtain ⟨f1, f2⟩ := vx_frame hsame
  rw [hhp] at f1 f2
  have hWs : s.WarmedH U.vm := State.WarmedH.trans hW0 hW
  have hcl : s.vm.findClass cls = some ce.cls := by
    have h9 := hO.1
    rw [hvm] at h9
    exact h9
  have hall : s.sameButNew ({ U with vm := s.vm } : State) locs mc ms := by
    subst hA
    obtain ⟨e1, e2⟩ := hsame
    rw [State.setFrames_setFrames] at e1
    have h2 : (T.setVm s.vm).sameButNew ({ U with vm := s.vm } : State) [] (0 + 1) (0 + 6) := ⟨e1, e2⟩
    have h3 := X.same.trans h2
    rw [List.append_nil] at h3
    exact h3.mono hc hs
  refine ⟨U, ?_, .threw T.heap.size, hrun, hend, Or.inr ⟨T.heap.size, rfl, cls, ce, locs, hx U hWs.alike f1 (fun q hq => f2 q hq (fun z hz => nomatch hz)), hce, hO.2, hcl, hWs, hall, hf⟩⟩
  refine st1 _ ?_
  show Steps p.tables e below (T1.setTop { method := m, pc := pc + 3, locals := ls, stack := .ref T.heap.size :: rest, locked := none }) _
  jvm_step X₁.here [X₁.here.top, hexec, d3', Value.category]
  exact X₁.ldcString hexec (own := own) (text := text) (index := is) (a := sa) hown' hstr'.1 hstr'.2
    (g := { method := m, pc := pc + 4, locals := ls, stack := .ref T.heap.size :: .ref T.heap.size :: rest, locked := none }) rfl d4' _ hsteps
end NXT
def nwl : List Cond := CASTS.map (fun q => .castable q.1 q.2) ++ DECLS.map .declares
theorem nwl_ok {mi : Nat} {args : Array Value} {s : State} (h : SV mi s) : ∀ w ∈ nwl, w.before args s = true := by
  intro w hw
  rcases List.mem_append.mp hw with hw | hw
  · obtain ⟨q, hq, rfl⟩ := List.mem_map.mp hw
    exact (h.2.1 q hq).use rfl
  · obtain ⟨y, hy, rfl⟩ := List.mem_map.mp hw
    exact (h.2.2.1 y hy).use rfl
abbrev xnm : List String := ["java/lang/RuntimeException", "java/lang/Exception"]
def XA (ic : Nat) (cls : String) : Prop := Bundle.fit cls = true ∧ Cond.initialized cls ∈ TBL ∧ (∀ w ∈ vx_atS "BeltRows" ic cls xnm, w ∈ TBL ∨ w ∈ nwl) ∧ (∀ w ∈ vx_atS "BeltRows" ic cls xnm, vx_ot w = true)
section BWT
variable {p : Program} {l : Launch} {e : Env} {R : Room} {s : State} {m : MethodId} {args : Array Value} {below : List Frame} {meth : Method} {c : Code} {H : Heap} {locs : List Loc} {cells slots : Nat}
variable {cc : ByteArray} {pc : Nat} {ls : Array Slot} {rest : List Value} {D : va_G} {AC : Nat → ClassId} {A : Nat → Prop} {w : Wd} {e0 mi : Nat} {nL nc ns mc ms : Nat} {y0 : MethodName} {ret0 : Option FieldType} {Q : Option Value → Wd → Prop} {X : String → Wd → Prop}
theorem bw_throw (C : Cx p l s m args meth c D AC e0 mi A y0 cc nL ret0) (hW : HW D cls8 FTc AC A s.heap H locs w) (ho : y0.cls = "BeltRows") {ic ik is : Nat} {cls text : String} (xa : XA ic cls) (hk : (Cond.classLink y0.cls ik cls).before args s = true) (hstr : ("BeltRows", is, text) ∈ STRS) (hq : X cls w) (hls : ls.size = nL) (h1 : 1 ≤ nc) (h2 : 6 ≤ ns) (hc : cells + nc ≤ mc) (hs : slots + ns ≤ ms) (hRc : mc = R.cells) (hRs : ms = R.slots) (hfr : 5 < R.frames) (hlo : (rest.map fun v => v.category).sum + 82 ≤ R.locals)
    (d0 : decode cc pc = .ok (.new ik, 3)) (d3 : decode cc (pc + 3) = .ok (.dup, 1)) (d4 : decode cc (pc + 4) = .ok (.ldc is, 2)) (d6 : decode cc (pc + 6) = .ok (.invokespecial ic, 3)) (d9 : decode cc (pc + 9) = .ok (.athrow, 1)) :
    W p l e R s m args below meth c H locs cells slots (vx_MQ below (QQ D AC A Q) (XX D AC A X) args s mc ms A) (F0 m pc ls rest) := by
  obtain ⟨hl, hx, hb, hr, ht, hown, hlocks, hnm, hml, hex, hK, hA, hZ, hV⟩ := C
  obtain ⟨x1, x2, x3, x4⟩ := xa
  obtain ⟨sa, hsa⟩ := hV.1 _ hstr
  rw [ho] at hown hk
  have g1 : cells + 1 ≤ mc := Nat.le_trans (Nat.add_le_add_left h1 _) hc
  have g2 : slots + 6 ≤ ms := Nat.le_trans (Nat.add_le_add_left h2 _) hs
  refine vx_throwS (names := xnm) (sa := sa) (text := text) hx hb hl hown x1 (by decide) hk (ht _ x2) hsa (fun w hw => (x3 w hw).elim (ht w) (nwl_ok hV w)) ?_ hZ.1 hZ.2.1 hW.2.2 (hls.trans hml.symm) d0 d3 d4 d6 d9 (fun x h => (hex x h).elim) hfr hlo (by rw [← hRc]; exact g1) (by rw [← hRs]; exact g2) hlocks (fun t hvm hz hk => ⟨w, hq, ?_, hW.2.1, ?_⟩) hW.2.2.2.2 g1 g2
  · intro w hw
    rcases List.mem_cons.mp hw with rfl | hw
    · rfl
    · rcases List.mem_cons.mp hw with rfl | hw
      · rfl
      · exact x4 w hw
  · intro k q hk2
    exact (hW.1 k q hk2).kept (hk _ (hW.1 k q hk2).lt)
  · exact ⟨Nat.le_trans hW.2.2.1 hz, fun q h3 h4 => (hk q (Nat.lt_of_lt_of_le h3 hW.2.2.1)).trans (hW.2.2.2.1 q h3 h4)⟩
end BWT
theorem xa_Ia : XA 72 "java/lang/IllegalArgumentException" := ⟨by decide, m_9, by decide +kernel, by decide +kernel⟩
theorem xa_Uo : XA 53 "java/lang/UnsupportedOperationException" := ⟨by decide, m_10, by decide +kernel, by decide +kernel⟩
theorem xa_Is : XA 167 "java/lang/IllegalStateException" := ⟨by decide, m_22, by decide +kernel, by decide +kernel⟩
theorem xa_Ar : XA 221 "java/lang/ArithmeticException" := ⟨by decide, m_24, by decide +kernel, by decide +kernel⟩
end
