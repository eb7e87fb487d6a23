/-! names: the words of the tables (those that keep), class tables; printed by wip/gen/names.py out of the Statement -/
def TBL : List Cond := lw_tbl.filter goodWord
theorem tg {ws : List Cond} (h : ∀ w ∈ ws, w ∈ TBL) : GoodIn TBL ws := fun w hw => ⟨h w hw, good_of_word (List.mem_filter.mp (h w hw)).2⟩
theorem tbl_in : ∀ w ∈ TBL, w ∈ lw_tbl := fun w h => (List.mem_filter.mp h).1
theorem tbl_1 {w : Cond} (i : Nat) (h : tables_1_1[i]? = some w) (g : goodWord w = true) : w ∈ TBL := List.mem_filter.mpr ⟨List.mem_append_right _ (List.mem_append_left _ (List.mem_of_getElem? h)), g⟩
theorem tbl_2 {w : Cond} (i : Nat) (h : tables_1_2[i]? = some w) (g : goodWord w = true) : w ∈ TBL := List.mem_filter.mpr ⟨List.mem_append_right _ (List.mem_append_right _ (List.mem_append_left _ (List.mem_of_getElem? h))), g⟩
theorem tbl_3 {w : Cond} (i : Nat) (h : tables_1_3[i]? = some w) (g : goodWord w = true) : w ∈ TBL := List.mem_filter.mpr ⟨List.mem_append_right _ (List.mem_append_right _ (List.mem_append_right _ (List.mem_append_left _ (List.mem_of_getElem? h)))), g⟩
theorem tbl_4 {w : Cond} (i : Nat) (h : tables_1_4[i]? = some w) (g : goodWord w = true) : w ∈ TBL := List.mem_filter.mpr ⟨List.mem_append_right _ (List.mem_append_right _ (List.mem_append_right _ (List.mem_append_right _ (List.mem_append_left _ (List.mem_of_getElem? h))))), g⟩
theorem tbl_5 {w : Cond} (i : Nat) (h : tables_1_5[i]? = some w) (g : goodWord w = true) : w ∈ TBL := List.mem_filter.mpr ⟨List.mem_append_right _ (List.mem_append_right _ (List.mem_append_right _ (List.mem_append_right _ (List.mem_append_right _ (List.mem_of_getElem? h))))), g⟩
theorem tbl_sel {y : MethodName × Nat} (i : Nat) (h : lw_privs[i]? = some y) : Cond.selects y.1.cls y.1 y.1 ∈ TBL := List.mem_filter.mpr ⟨List.mem_append_left _ (List.mem_map.mpr ⟨y, List.mem_of_getElem? h, rfl⟩), rfl⟩
theorem m_0 : (Jvm.Cond.initialized "BeltRowsLaw") ∈ TBL := tbl_1 0 rfl rfl
theorem m_1 : (Jvm.Cond.initialized "BeltRows") ∈ TBL := tbl_1 1 rfl rfl
theorem m_2 : (Jvm.Cond.initialized "java/util/AbstractCollection") ∈ TBL := tbl_1 2 rfl rfl
theorem m_3 : (Jvm.Cond.initialized "java/util/AbstractList") ∈ TBL := tbl_1 3 rfl rfl
theorem m_4 : (Jvm.Cond.initialized "java/util/ArrayList") ∈ TBL := tbl_1 4 rfl rfl
theorem m_5 : (Jvm.Cond.initialized "BeltRowsModel") ∈ TBL := tbl_1 5 rfl rfl
theorem m_6 : (Jvm.Cond.initialized "java/lang/Throwable") ∈ TBL := tbl_1 6 rfl rfl
theorem m_7 : (Jvm.Cond.initialized "java/lang/Exception") ∈ TBL := tbl_1 7 rfl rfl
theorem m_8 : (Jvm.Cond.initialized "java/lang/RuntimeException") ∈ TBL := tbl_1 8 rfl rfl
theorem m_9 : (Jvm.Cond.initialized "java/lang/IllegalArgumentException") ∈ TBL := tbl_1 9 rfl rfl
theorem m_10 : (Jvm.Cond.initialized "java/lang/UnsupportedOperationException") ∈ TBL := tbl_1 10 rfl rfl
theorem m_11 : (Jvm.Cond.initialized "BeltRows$Belt") ∈ TBL := tbl_1 11 rfl rfl
theorem m_12 : (Jvm.Cond.initialized "BeltRows$Way") ∈ TBL := tbl_1 12 rfl rfl
theorem m_13 : (Jvm.Cond.initialized "jdk/internal/util/ArraysSupport") ∈ TBL := tbl_1 13 rfl rfl
theorem m_14 : (Jvm.Cond.initialized "java/lang/Math") ∈ TBL := tbl_1 14 rfl rfl
theorem m_15 : (Jvm.Cond.initialized "java/util/Arrays") ∈ TBL := tbl_1 15 rfl rfl
theorem m_16 : (Jvm.Cond.initialized "java/lang/System") ∈ TBL := tbl_1 16 rfl rfl
theorem m_17 : (Jvm.Cond.initialized "java/util/NoSuchElementException") ∈ TBL := tbl_1 17 rfl rfl
theorem m_18 : (Jvm.Cond.initialized "java/util/Objects") ∈ TBL := tbl_1 18 rfl rfl
theorem m_19 : (Jvm.Cond.initialized "jdk/internal/util/Preconditions") ∈ TBL := tbl_1 19 rfl rfl
theorem m_20 : (Jvm.Cond.initialized "BeltRows$Scanner") ∈ TBL := tbl_1 20 rfl rfl
theorem m_21 : (Jvm.Cond.initialized "BeltRows$Item") ∈ TBL := tbl_1 21 rfl rfl
theorem m_22 : (Jvm.Cond.initialized "java/lang/IllegalStateException") ∈ TBL := tbl_1 22 rfl rfl
theorem m_23 : (Jvm.Cond.initialized "BeltRows$Edge") ∈ TBL := tbl_1 23 rfl rfl
theorem m_24 : (Jvm.Cond.initialized "java/lang/ArithmeticException") ∈ TBL := tbl_1 24 rfl rfl
theorem m_25 : (Jvm.Cond.classLink "BeltRowsLaw" (8 : Nat) "BeltRows") ∈ TBL := tbl_1 25 rfl rfl
theorem m_26 : (Jvm.Cond.instantiable "BeltRows" (9 : Nat)) ∈ TBL := tbl_1 26 rfl rfl
theorem m_27 : (Jvm.Cond.methodLink "BeltRowsLaw" (77 : Nat) ({ cls := "BeltRows", name := "<init>", desc := "()V" } : Jvm.MethodName)) ∈ TBL := tbl_1 27 rfl rfl
theorem m_28 : (Jvm.Cond.instanceMethod ({ cls := "BeltRows", name := "<init>", desc := "()V" } : Jvm.MethodName)) ∈ TBL := tbl_1 28 rfl rfl
theorem m_29 : (Jvm.Cond.code ({ cls := "BeltRows", name := "<init>", desc := "()V" } : Jvm.MethodName) prog_1_method_1_code (1 : Nat) (Option.none : Option Jvm.ClassFile.FieldType)) ∈ TBL := tbl_1 29 rfl rfl
theorem m_30 : (Jvm.Cond.methodLink "BeltRows" (1 : Nat) ({ cls := "java/lang/Object", name := "<init>", desc := "()V" } : Jvm.MethodName)) ∈ TBL := tbl_1 30 rfl rfl
theorem m_31 : (Jvm.Cond.instanceMethod ({ cls := "java/lang/Object", name := "<init>", desc := "()V" } : Jvm.MethodName)) ∈ TBL := tbl_1 31 rfl rfl
theorem m_32 : (Jvm.Cond.code ({ cls := "java/lang/Object", name := "<init>", desc := "()V" } : Jvm.MethodName) object_method_1_code (1 : Nat) (Option.none : Option Jvm.ClassFile.FieldType)) ∈ TBL := tbl_1 32 rfl rfl
theorem m_33 : (Jvm.Cond.classLink "BeltRows" (7 : Nat) "java/util/ArrayList") ∈ TBL := tbl_1 33 rfl rfl
theorem m_34 : (Jvm.Cond.instantiable "java/util/ArrayList" (3 : Nat)) ∈ TBL := tbl_1 34 rfl rfl
theorem m_35 : (Jvm.Cond.methodLink "BeltRows" (9 : Nat) ({ cls := "java/util/ArrayList", name := "<init>", desc := "()V" } : Jvm.MethodName)) ∈ TBL := tbl_1 35 rfl rfl
theorem m_36 : (Jvm.Cond.instanceMethod ({ cls := "java/util/ArrayList", name := "<init>", desc := "()V" } : Jvm.MethodName)) ∈ TBL := tbl_1 36 rfl rfl
theorem m_37 : (Jvm.Cond.code ({ cls := "java/util/ArrayList", name := "<init>", desc := "()V" } : Jvm.MethodName) prog_24_method_2_code (1 : Nat) (Option.none : Option Jvm.ClassFile.FieldType)) ∈ TBL := tbl_1 37 rfl rfl
theorem m_38 : (Jvm.Cond.methodLink "java/util/ArrayList" (1 : Nat) ({ cls := "java/util/AbstractList", name := "<init>", desc := "()V" } : Jvm.MethodName)) ∈ TBL := tbl_1 38 rfl rfl
theorem m_39 : (Jvm.Cond.instanceMethod ({ cls := "java/util/AbstractList", name := "<init>", desc := "()V" } : Jvm.MethodName)) ∈ TBL := tbl_1 39 rfl rfl
theorem m_40 : (Jvm.Cond.code ({ cls := "java/util/AbstractList", name := "<init>", desc := "()V" } : Jvm.MethodName) prog_23_method_1_code (1 : Nat) (Option.none : Option Jvm.ClassFile.FieldType)) ∈ TBL := tbl_1 40 rfl rfl
theorem m_41 : (Jvm.Cond.methodLink "java/util/AbstractList" (1 : Nat) ({ cls := "java/util/AbstractCollection", name := "<init>", desc := "()V" } : Jvm.MethodName)) ∈ TBL := tbl_1 41 rfl rfl
theorem m_42 : (Jvm.Cond.instanceMethod ({ cls := "java/util/AbstractCollection", name := "<init>", desc := "()V" } : Jvm.MethodName)) ∈ TBL := tbl_1 42 rfl rfl
theorem m_43 : (Jvm.Cond.code ({ cls := "java/util/AbstractCollection", name := "<init>", desc := "()V" } : Jvm.MethodName) prog_22_method_1_code (1 : Nat) (Option.none : Option Jvm.ClassFile.FieldType)) ∈ TBL := tbl_1 43 rfl rfl
theorem m_44 : (Jvm.Cond.methodLink "java/util/AbstractCollection" (1 : Nat) ({ cls := "java/lang/Object", name := "<init>", desc := "()V" } : Jvm.MethodName)) ∈ TBL := tbl_1 44 rfl rfl
theorem m_45 : (Jvm.Cond.fieldLink "java/util/ArrayList" (39 : Nat) "java/util/ArrayList" "DEFAULTCAPACITY_EMPTY_ELEMENTDATA" "[Ljava/lang/Object;") ∈ TBL := tbl_1 45 rfl rfl
theorem m_47 : (Jvm.Cond.fieldLink "java/util/ArrayList" (9 : Nat) "java/util/ArrayList" "elementData" "[Ljava/lang/Object;") ∈ TBL := tbl_1 47 rfl rfl
theorem m_48 : (Jvm.Cond.fieldLink "java/util/ArrayList" (48 : Nat) "java/util/ArrayList" "size" "I") ∈ TBL := tbl_1 48 rfl rfl
theorem m_49 : (Jvm.Cond.fieldLink "java/util/AbstractList" (7 : Nat) "java/util/AbstractList" "modCount" "I") ∈ TBL := tbl_1 49 rfl rfl
theorem m_50 : (Jvm.Cond.fieldLink "java/util/ArrayList" (63 : Nat) "java/util/ArrayList" "modCount" "I") ∈ TBL := tbl_1 50 rfl rfl
theorem m_51 : (Jvm.Cond.sameField "java/util/ArrayList" "java/util/AbstractList" "modCount" "I") ∈ TBL := tbl_1 51 rfl rfl
theorem m_52 : (Jvm.Cond.lays "java/util/ArrayList" "java/util/ArrayList" "elementData" "[Ljava/lang/Object;") ∈ TBL := tbl_1 52 rfl rfl
theorem m_54 : (Jvm.Cond.lays "java/util/ArrayList" "java/util/ArrayList" "size" "I") ∈ TBL := tbl_1 54 rfl rfl
theorem m_56 : (Jvm.Cond.lays "java/util/ArrayList" "java/util/AbstractList" "modCount" "I") ∈ TBL := tbl_1 56 rfl rfl
theorem m_59 : (Jvm.Cond.fieldLink "BeltRows" (10 : Nat) "BeltRows" "belts" "Ljava/util/ArrayList;") ∈ TBL := tbl_1 59 rfl rfl
theorem m_60 : (Jvm.Cond.fieldLink "BeltRows" (16 : Nat) "BeltRows" "items" "Ljava/util/ArrayList;") ∈ TBL := tbl_1 60 rfl rfl
theorem m_61 : (Jvm.Cond.fieldLink "BeltRows" (19 : Nat) "BeltRows" "scanners" "Ljava/util/ArrayList;") ∈ TBL := tbl_1 61 rfl rfl
theorem m_62 : (Jvm.Cond.fieldLink "BeltRows" (22 : Nat) "BeltRows" "edges" "Ljava/util/ArrayList;") ∈ TBL := tbl_1 62 rfl rfl
theorem m_63 : (Jvm.Cond.fieldLink "BeltRows" (25 : Nat) "BeltRows" "waiting" "Ljava/util/ArrayList;") ∈ TBL := tbl_1 63 rfl rfl
theorem m_64 : (Jvm.Cond.fieldLink "BeltRows" (28 : Nat) "BeltRows" "gone" "Ljava/util/ArrayList;") ∈ TBL := tbl_1 64 rfl rfl
theorem m_65 : (Jvm.Cond.fieldLink "BeltRows" (31 : Nat) "BeltRows" "leastGap" "I") ∈ TBL := tbl_1 65 rfl rfl
theorem m_66 : (Jvm.Cond.fieldLink "BeltRows" (35 : Nat) "BeltRows" "time" "I") ∈ TBL := tbl_1 66 rfl rfl
theorem m_67 : (Jvm.Cond.fieldLink "BeltRows" (38 : Nat) "BeltRows" "secondsOfGone" "I") ∈ TBL := tbl_1 67 rfl rfl
theorem m_68 : (Jvm.Cond.laysFinal "BeltRows" "BeltRows" "belts" "Ljava/util/ArrayList;") ∈ TBL := tbl_1 68 rfl rfl
theorem m_70 : (Jvm.Cond.laysFinal "BeltRows" "BeltRows" "items" "Ljava/util/ArrayList;") ∈ TBL := tbl_1 70 rfl rfl
theorem m_72 : (Jvm.Cond.laysFinal "BeltRows" "BeltRows" "scanners" "Ljava/util/ArrayList;") ∈ TBL := tbl_1 72 rfl rfl
theorem m_74 : (Jvm.Cond.laysFinal "BeltRows" "BeltRows" "edges" "Ljava/util/ArrayList;") ∈ TBL := tbl_1 74 rfl rfl
theorem m_76 : (Jvm.Cond.laysFinal "BeltRows" "BeltRows" "waiting" "Ljava/util/ArrayList;") ∈ TBL := tbl_1 76 rfl rfl
theorem m_78 : (Jvm.Cond.laysFinal "BeltRows" "BeltRows" "gone" "Ljava/util/ArrayList;") ∈ TBL := tbl_1 78 rfl rfl
theorem m_80 : (Jvm.Cond.lays "BeltRows" "BeltRows" "leastGap" "I") ∈ TBL := tbl_1 80 rfl rfl
theorem m_82 : (Jvm.Cond.lays "BeltRows" "BeltRows" "time" "I") ∈ TBL := tbl_1 82 rfl rfl
theorem m_84 : (Jvm.Cond.lays "BeltRows" "BeltRows" "secondsOfGone" "I") ∈ TBL := tbl_1 84 rfl rfl
theorem m_87 : (Jvm.Cond.methodLink "BeltRowsLaw" (141 : Nat) ({ cls := "BeltRows", name := "count", desc := "(I)I" } : Jvm.MethodName)) ∈ TBL := tbl_1 87 rfl rfl
theorem m_88 : (Jvm.Cond.instanceMethod ({ cls := "BeltRows", name := "count", desc := "(I)I" } : Jvm.MethodName)) ∈ TBL := tbl_1 88 rfl rfl
theorem m_89 : (Jvm.Cond.selects "BeltRows" ({ cls := "BeltRows", name := "count", desc := "(I)I" } : Jvm.MethodName) ({ cls := "BeltRows", name := "count", desc := "(I)I" } : Jvm.MethodName)) ∈ TBL := tbl_1 89 rfl rfl
theorem m_90 : (Jvm.Cond.code ({ cls := "BeltRows", name := "count", desc := "(I)I" } : Jvm.MethodName) prog_1_method_19_code (2 : Nat) (Option.some Jvm.ClassFile.FieldType.int)) ∈ TBL := tbl_1 90 rfl rfl
theorem m_91 : (Jvm.Cond.methodLink "BeltRows" (45 : Nat) ({ cls := "java/util/ArrayList", name := "size", desc := "()I" } : Jvm.MethodName)) ∈ TBL := tbl_1 91 rfl rfl
theorem m_92 : (Jvm.Cond.instanceMethod ({ cls := "java/util/ArrayList", name := "size", desc := "()I" } : Jvm.MethodName)) ∈ TBL := tbl_1 92 rfl rfl
theorem m_93 : (Jvm.Cond.selects "java/util/ArrayList" ({ cls := "java/util/ArrayList", name := "size", desc := "()I" } : Jvm.MethodName) ({ cls := "java/util/ArrayList", name := "size", desc := "()I" } : Jvm.MethodName)) ∈ TBL := tbl_1 93 rfl rfl
theorem m_94 : (Jvm.Cond.code ({ cls := "java/util/ArrayList", name := "size", desc := "()I" } : Jvm.MethodName) prog_24_method_8_code (1 : Nat) (Option.some Jvm.ClassFile.FieldType.int)) ∈ TBL := tbl_1 94 rfl rfl
theorem m_95 : (Jvm.Cond.methodLink "BeltRows" (222 : Nat) ({ cls := "BeltRows", name := "itemsOnBelts", desc := "()I" } : Jvm.MethodName)) ∈ TBL := tbl_1 95 rfl rfl
theorem m_97 : (Jvm.Cond.instanceMethod ({ cls := "BeltRows", name := "itemsOnBelts", desc := "()I" } : Jvm.MethodName)) ∈ TBL := tbl_1 97 rfl rfl
theorem m_98 : (Jvm.Cond.code ({ cls := "BeltRows", name := "itemsOnBelts", desc := "()I" } : Jvm.MethodName) prog_1_method_25_code (3 : Nat) (Option.some Jvm.ClassFile.FieldType.int)) ∈ TBL := tbl_1 98 rfl rfl
theorem m_99 : (Jvm.Cond.methodLink "BeltRows" (140 : Nat) ({ cls := "java/util/ArrayList", name := "get", desc := "(I)Ljava/lang/Object;" } : Jvm.MethodName)) ∈ TBL := tbl_1 99 rfl rfl
theorem m_100 : (Jvm.Cond.instanceMethod ({ cls := "java/util/ArrayList", name := "get", desc := "(I)Ljava/lang/Object;" } : Jvm.MethodName)) ∈ TBL := tbl_1 100 rfl rfl
theorem m_101 : (Jvm.Cond.selects "java/util/ArrayList" ({ cls := "java/util/ArrayList", name := "get", desc := "(I)Ljava/lang/Object;" } : Jvm.MethodName) ({ cls := "java/util/ArrayList", name := "get", desc := "(I)Ljava/lang/Object;" } : Jvm.MethodName)) ∈ TBL := tbl_1 101 rfl rfl
theorem m_102 : (Jvm.Cond.code ({ cls := "java/util/ArrayList", name := "get", desc := "(I)Ljava/lang/Object;" } : Jvm.MethodName) prog_24_method_20_code (2 : Nat) (Option.some (Jvm.ClassFile.FieldType.object "java/lang/Object"))) ∈ TBL := tbl_1 102 rfl rfl
theorem m_103 : (Jvm.Cond.methodLink "java/util/ArrayList" (118 : Nat) ({ cls := "java/util/Objects", name := "checkIndex", desc := "(II)I" } : Jvm.MethodName)) ∈ TBL := tbl_1 103 rfl rfl
theorem m_104 : (Jvm.Cond.static ({ cls := "java/util/Objects", name := "checkIndex", desc := "(II)I" } : Jvm.MethodName)) ∈ TBL := tbl_1 104 rfl rfl
theorem m_105 : (Jvm.Cond.code ({ cls := "java/util/Objects", name := "checkIndex", desc := "(II)I" } : Jvm.MethodName) prog_29_method_17_code (2 : Nat) (Option.some Jvm.ClassFile.FieldType.int)) ∈ TBL := tbl_1 105 rfl rfl
theorem m_106 : (Jvm.Cond.methodLink "java/util/Objects" (105 : Nat) ({ cls := "jdk/internal/util/Preconditions", name := "checkIndex", desc := "(IILjava/util/function/BiFunction;)I" } : Jvm.MethodName)) ∈ TBL := tbl_1 106 rfl rfl
theorem m_107 : (Jvm.Cond.static ({ cls := "jdk/internal/util/Preconditions", name := "checkIndex", desc := "(IILjava/util/function/BiFunction;)I" } : Jvm.MethodName)) ∈ TBL := tbl_1 107 rfl rfl
theorem m_108 : (Jvm.Cond.code ({ cls := "jdk/internal/util/Preconditions", name := "checkIndex", desc := "(IILjava/util/function/BiFunction;)I" } : Jvm.MethodName) prog_33_method_11_code (3 : Nat) (Option.some Jvm.ClassFile.FieldType.int)) ∈ TBL := tbl_1 108 rfl rfl
theorem m_109 : (Jvm.Cond.methodLink "java/util/ArrayList" (123 : Nat) ({ cls := "java/util/ArrayList", name := "elementData", desc := "(I)Ljava/lang/Object;" } : Jvm.MethodName)) ∈ TBL := tbl_1 109 rfl rfl
theorem m_110 : (Jvm.Cond.instanceMethod ({ cls := "java/util/ArrayList", name := "elementData", desc := "(I)Ljava/lang/Object;" } : Jvm.MethodName)) ∈ TBL := tbl_1 110 rfl rfl
theorem m_111 : (Jvm.Cond.selects "java/util/ArrayList" ({ cls := "java/util/ArrayList", name := "elementData", desc := "(I)Ljava/lang/Object;" } : Jvm.MethodName) ({ cls := "java/util/ArrayList", name := "elementData", desc := "(I)Ljava/lang/Object;" } : Jvm.MethodName)) ∈ TBL := tbl_1 111 rfl rfl
theorem m_112 : (Jvm.Cond.code ({ cls := "java/util/ArrayList", name := "elementData", desc := "(I)Ljava/lang/Object;" } : Jvm.MethodName) prog_24_method_18_code (2 : Nat) (Option.some (Jvm.ClassFile.FieldType.object "java/lang/Object"))) ∈ TBL := tbl_1 112 rfl rfl
theorem m_113 : (Jvm.Cond.classLink "BeltRows" (56 : Nat) "BeltRows$Belt") ∈ TBL := tbl_1 113 rfl rfl
theorem m_114 : (Jvm.Cond.methodLink "BeltRowsLaw" (81 : Nat) ({ cls := "BeltRowsLaw", name := "belt", desc := "(LBeltRows;II[J)I" } : Jvm.MethodName)) ∈ TBL := tbl_1 114 rfl rfl
theorem m_115 : (Jvm.Cond.static ({ cls := "BeltRowsLaw", name := "belt", desc := "(LBeltRows;II[J)I" } : Jvm.MethodName)) ∈ TBL := tbl_1 115 rfl rfl
theorem m_116 : (Jvm.Cond.codeWith ({ cls := "BeltRowsLaw", name := "belt", desc := "(LBeltRows;II[J)I" } : Jvm.MethodName) method_3_code (5 : Nat) (Option.some Jvm.ClassFile.FieldType.int) [((0 : Nat), (10 : Nat), (13 : Nat), (13 : Nat)), ((0 : Nat), (10 : Nat), (17 : Nat), (15 : Nat))]) ∈ TBL := tbl_1 116 rfl rfl
theorem m_117 : (Jvm.Cond.classLink "BeltRowsLaw" (13 : Nat) "java/lang/IllegalArgumentException") ∈ TBL := tbl_1 117 rfl rfl
theorem m_118 : (Jvm.Cond.classLink "BeltRowsLaw" (15 : Nat) "java/lang/UnsupportedOperationException") ∈ TBL := tbl_1 118 rfl rfl
theorem m_119 : (Jvm.Cond.methodLink "BeltRowsLaw" (7 : Nat) ({ cls := "BeltRows", name := "belt", desc := "(II)I" } : Jvm.MethodName)) ∈ TBL := tbl_1 119 rfl rfl
theorem m_120 : (Jvm.Cond.instanceMethod ({ cls := "BeltRows", name := "belt", desc := "(II)I" } : Jvm.MethodName)) ∈ TBL := tbl_1 120 rfl rfl
theorem m_121 : (Jvm.Cond.selects "BeltRows" ({ cls := "BeltRows", name := "belt", desc := "(II)I" } : Jvm.MethodName) ({ cls := "BeltRows", name := "belt", desc := "(II)I" } : Jvm.MethodName)) ∈ TBL := tbl_1 121 rfl rfl
theorem m_122 : (Jvm.Cond.code ({ cls := "BeltRows", name := "belt", desc := "(II)I" } : Jvm.MethodName) prog_1_method_2_code (4 : Nat) (Option.some Jvm.ClassFile.FieldType.int)) ∈ TBL := tbl_1 122 rfl rfl
theorem m_123 : (Jvm.Cond.methodLink "BeltRows" (41 : Nat) ({ cls := "BeltRows", name := "checkRange", desc := "(III)V" } : Jvm.MethodName)) ∈ TBL := tbl_1 123 rfl rfl
theorem m_124 : (Jvm.Cond.static ({ cls := "BeltRows", name := "checkRange", desc := "(III)V" } : Jvm.MethodName)) ∈ TBL := tbl_1 124 rfl rfl
theorem m_125 : (Jvm.Cond.code ({ cls := "BeltRows", name := "checkRange", desc := "(III)V" } : Jvm.MethodName) prog_1_method_20_code (3 : Nat) (Option.none : Option Jvm.ClassFile.FieldType)) ∈ TBL := tbl_1 125 rfl rfl
theorem m_126 : (Jvm.Cond.classLink "BeltRows" (68 : Nat) "java/lang/IllegalArgumentException") ∈ TBL := tbl_1 126 rfl rfl
theorem m_127 : (Jvm.Cond.instantiable "java/lang/IllegalArgumentException" (6 : Nat)) ∈ TBL := tbl_1 127 rfl rfl
theorem m_135 : (Jvm.Cond.selects "java/lang/IllegalArgumentException" ({ cls := "java/lang/Throwable", name := "fillInStackTrace", desc := "(I)Ljava/lang/Throwable;" } : Jvm.MethodName) ({ cls := "java/lang/Throwable", name := "fillInStackTrace", desc := "(I)Ljava/lang/Throwable;" } : Jvm.MethodName)) ∈ TBL := tbl_1 135 rfl rfl
theorem m_136 : (Jvm.Cond.selects "java/lang/IllegalArgumentException" ({ cls := "java/lang/Throwable", name := "fillInStackTrace", desc := "()Ljava/lang/Throwable;" } : Jvm.MethodName) ({ cls := "java/lang/Throwable", name := "fillInStackTrace", desc := "()Ljava/lang/Throwable;" } : Jvm.MethodName)) ∈ TBL := tbl_1 136 rfl rfl
theorem m_137 : (Jvm.Cond.lays "java/lang/IllegalArgumentException" "java/lang/Throwable" "cause" "Ljava/lang/Throwable;") ∈ TBL := tbl_1 137 rfl rfl
theorem m_138 : (Jvm.Cond.lays "java/lang/Throwable" "java/lang/Throwable" "cause" "Ljava/lang/Throwable;") ∈ TBL := tbl_1 138 rfl rfl
theorem m_139 : (Jvm.Cond.lays "java/lang/IllegalArgumentException" "java/lang/Throwable" "stackTrace" "[Ljava/lang/StackTraceElement;") ∈ TBL := tbl_1 139 rfl rfl
theorem m_140 : (Jvm.Cond.lays "java/lang/Throwable" "java/lang/Throwable" "stackTrace" "[Ljava/lang/StackTraceElement;") ∈ TBL := tbl_1 140 rfl rfl
theorem m_141 : (Jvm.Cond.lays "java/lang/IllegalArgumentException" "java/lang/Throwable" "suppressedExceptions" "Ljava/util/List;") ∈ TBL := tbl_1 141 rfl rfl
theorem m_142 : (Jvm.Cond.lays "java/lang/Throwable" "java/lang/Throwable" "suppressedExceptions" "Ljava/util/List;") ∈ TBL := tbl_1 142 rfl rfl
theorem m_143 : (Jvm.Cond.lays "java/lang/IllegalArgumentException" "java/lang/Throwable" "detailMessage" "Ljava/lang/String;") ∈ TBL := tbl_1 143 rfl rfl
theorem m_144 : (Jvm.Cond.lays "java/lang/Throwable" "java/lang/Throwable" "detailMessage" "Ljava/lang/String;") ∈ TBL := tbl_1 144 rfl rfl
theorem m_145 : (Jvm.Cond.lays "java/lang/IllegalArgumentException" "java/lang/Throwable" "backtrace" "Ljava/lang/Object;") ∈ TBL := tbl_1 145 rfl rfl
theorem m_146 : (Jvm.Cond.lays "java/lang/Throwable" "java/lang/Throwable" "backtrace" "Ljava/lang/Object;") ∈ TBL := tbl_1 146 rfl rfl
theorem m_147 : (Jvm.Cond.fieldLink "java/lang/Throwable" (198 : Nat) "java/lang/Throwable" "backtrace" "Ljava/lang/Object;") ∈ TBL := tbl_1 147 rfl rfl
theorem m_149 : (Jvm.Cond.instanceMethod ({ cls := "java/lang/Throwable", name := "<init>", desc := "()V" } : Jvm.MethodName)) ∈ TBL := tbl_1 149 rfl rfl
theorem m_150 : (Jvm.Cond.code ({ cls := "java/lang/Throwable", name := "<init>", desc := "()V" } : Jvm.MethodName) prog_20_method_1_code (1 : Nat) (Option.none : Option Jvm.ClassFile.FieldType)) ∈ TBL := tbl_1 150 rfl rfl
theorem m_151 : (Jvm.Cond.methodLink "java/lang/Throwable" (1 : Nat) ({ cls := "java/lang/Object", name := "<init>", desc := "()V" } : Jvm.MethodName)) ∈ TBL := tbl_1 151 rfl rfl
theorem m_152 : (Jvm.Cond.fieldLink "java/lang/Throwable" (13 : Nat) "java/lang/Throwable" "UNASSIGNED_STACK" "[Ljava/lang/StackTraceElement;") ∈ TBL := tbl_1 152 rfl rfl
theorem m_154 : (Jvm.Cond.fieldLink "java/lang/Throwable" (20 : Nat) "java/lang/Throwable" "SUPPRESSED_SENTINEL" "Ljava/util/List;") ∈ TBL := tbl_1 154 rfl rfl
theorem m_156 : (Jvm.Cond.methodLink "java/lang/Throwable" (27 : Nat) ({ cls := "java/lang/Throwable", name := "fillInStackTrace", desc := "()Ljava/lang/Throwable;" } : Jvm.MethodName)) ∈ TBL := tbl_1 156 rfl rfl
theorem m_157 : (Jvm.Cond.instanceMethod ({ cls := "java/lang/Throwable", name := "fillInStackTrace", desc := "()Ljava/lang/Throwable;" } : Jvm.MethodName)) ∈ TBL := tbl_1 157 rfl rfl
theorem m_159 : (Jvm.Cond.selects "java/lang/ArithmeticException" ({ cls := "java/lang/Throwable", name := "fillInStackTrace", desc := "()Ljava/lang/Throwable;" } : Jvm.MethodName) ({ cls := "java/lang/Throwable", name := "fillInStackTrace", desc := "()Ljava/lang/Throwable;" } : Jvm.MethodName)) ∈ TBL := tbl_1 159 rfl rfl
theorem m_160 : (Jvm.Cond.selects "java/lang/IllegalStateException" ({ cls := "java/lang/Throwable", name := "fillInStackTrace", desc := "()Ljava/lang/Throwable;" } : Jvm.MethodName) ({ cls := "java/lang/Throwable", name := "fillInStackTrace", desc := "()Ljava/lang/Throwable;" } : Jvm.MethodName)) ∈ TBL := tbl_1 160 rfl rfl
theorem m_161 : (Jvm.Cond.selects "java/lang/UnsupportedOperationException" ({ cls := "java/lang/Throwable", name := "fillInStackTrace", desc := "()Ljava/lang/Throwable;" } : Jvm.MethodName) ({ cls := "java/lang/Throwable", name := "fillInStackTrace", desc := "()Ljava/lang/Throwable;" } : Jvm.MethodName)) ∈ TBL := tbl_1 161 rfl rfl
theorem m_162 : (Jvm.Cond.selects "java/util/NoSuchElementException" ({ cls := "java/lang/Throwable", name := "fillInStackTrace", desc := "()Ljava/lang/Throwable;" } : Jvm.MethodName) ({ cls := "java/lang/Throwable", name := "fillInStackTrace", desc := "()Ljava/lang/Throwable;" } : Jvm.MethodName)) ∈ TBL := tbl_1 162 rfl rfl
theorem m_164 : (Jvm.Cond.methodLink "java/lang/Throwable" (202 : Nat) ({ cls := "java/lang/Throwable", name := "fillInStackTrace", desc := "(I)Ljava/lang/Throwable;" } : Jvm.MethodName)) ∈ TBL := tbl_1 164 rfl rfl
theorem m_166 : (Jvm.Cond.instanceMethod ({ cls := "java/lang/Throwable", name := "fillInStackTrace", desc := "(I)Ljava/lang/Throwable;" } : Jvm.MethodName)) ∈ TBL := tbl_1 166 rfl rfl
theorem m_167 : (Jvm.Cond.instantiable "java/lang/Throwable" (6 : Nat)) ∈ TBL := tbl_1 167 rfl rfl
theorem m_170 : (Jvm.Cond.methodLink "BeltRows" (72 : Nat) ({ cls := "java/lang/IllegalArgumentException", name := "<init>", desc := "(Ljava/lang/String;)V" } : Jvm.MethodName)) ∈ TBL := tbl_1 170 rfl rfl
theorem m_171 : (Jvm.Cond.instanceMethod ({ cls := "java/lang/IllegalArgumentException", name := "<init>", desc := "(Ljava/lang/String;)V" } : Jvm.MethodName)) ∈ TBL := tbl_1 171 rfl rfl
theorem m_172 : (Jvm.Cond.code ({ cls := "java/lang/IllegalArgumentException", name := "<init>", desc := "(Ljava/lang/String;)V" } : Jvm.MethodName) prog_13_method_2_code (2 : Nat) (Option.none : Option Jvm.ClassFile.FieldType)) ∈ TBL := tbl_1 172 rfl rfl
theorem m_173 : (Jvm.Cond.methodLink "java/lang/IllegalArgumentException" (7 : Nat) ({ cls := "java/lang/RuntimeException", name := "<init>", desc := "(Ljava/lang/String;)V" } : Jvm.MethodName)) ∈ TBL := tbl_1 173 rfl rfl
theorem m_174 : (Jvm.Cond.instanceMethod ({ cls := "java/lang/RuntimeException", name := "<init>", desc := "(Ljava/lang/String;)V" } : Jvm.MethodName)) ∈ TBL := tbl_1 174 rfl rfl
theorem m_175 : (Jvm.Cond.code ({ cls := "java/lang/RuntimeException", name := "<init>", desc := "(Ljava/lang/String;)V" } : Jvm.MethodName) prog_17_method_2_code (2 : Nat) (Option.none : Option Jvm.ClassFile.FieldType)) ∈ TBL := tbl_1 175 rfl rfl
theorem m_176 : (Jvm.Cond.methodLink "java/lang/RuntimeException" (7 : Nat) ({ cls := "java/lang/Exception", name := "<init>", desc := "(Ljava/lang/String;)V" } : Jvm.MethodName)) ∈ TBL := tbl_1 176 rfl rfl
theorem m_177 : (Jvm.Cond.instanceMethod ({ cls := "java/lang/Exception", name := "<init>", desc := "(Ljava/lang/String;)V" } : Jvm.MethodName)) ∈ TBL := tbl_1 177 rfl rfl
theorem m_178 : (Jvm.Cond.code ({ cls := "java/lang/Exception", name := "<init>", desc := "(Ljava/lang/String;)V" } : Jvm.MethodName) prog_12_method_2_code (2 : Nat) (Option.none : Option Jvm.ClassFile.FieldType)) ∈ TBL := tbl_1 178 rfl rfl
theorem m_179 : (Jvm.Cond.methodLink "java/lang/Exception" (7 : Nat) ({ cls := "java/lang/Throwable", name := "<init>", desc := "(Ljava/lang/String;)V" } : Jvm.MethodName)) ∈ TBL := tbl_1 179 rfl rfl
theorem m_180 : (Jvm.Cond.instanceMethod ({ cls := "java/lang/Throwable", name := "<init>", desc := "(Ljava/lang/String;)V" } : Jvm.MethodName)) ∈ TBL := tbl_1 180 rfl rfl
theorem m_181 : (Jvm.Cond.code ({ cls := "java/lang/Throwable", name := "<init>", desc := "(Ljava/lang/String;)V" } : Jvm.MethodName) prog_20_method_2_code (2 : Nat) (Option.none : Option Jvm.ClassFile.FieldType)) ∈ TBL := tbl_1 181 rfl rfl
theorem m_182 : (Jvm.Cond.fieldLink "java/lang/Throwable" (198 : Nat) "java/lang/Throwable" "backtrace" "Ljava/lang/Object;") ∈ TBL := tbl_1 182 rfl rfl
theorem m_183 : (Jvm.Cond.fieldLink "java/lang/Throwable" (31 : Nat) "java/lang/Throwable" "detailMessage" "Ljava/lang/String;") ∈ TBL := tbl_1 183 rfl rfl
theorem m_184 : (Jvm.Cond.fieldLink "java/lang/Throwable" (7 : Nat) "java/lang/Throwable" "cause" "Ljava/lang/Throwable;") ∈ TBL := tbl_1 184 rfl rfl
theorem m_185 : (Jvm.Cond.fieldLink "java/lang/Throwable" (17 : Nat) "java/lang/Throwable" "stackTrace" "[Ljava/lang/StackTraceElement;") ∈ TBL := tbl_1 185 rfl rfl
theorem m_186 : (Jvm.Cond.fieldLink "java/lang/Throwable" (24 : Nat) "java/lang/Throwable" "suppressedExceptions" "Ljava/util/List;") ∈ TBL := tbl_1 186 rfl rfl
theorem m_191 : (Jvm.Cond.lays "java/lang/IllegalArgumentException" "java/lang/Throwable" "depth" "I") ∈ TBL := tbl_1 191 rfl rfl
theorem m_195 : (Jvm.Cond.arrayClass Jvm.ClassFile.FieldType.byte) ∈ TBL := tbl_1 195 rfl rfl
theorem m_196 : (Jvm.Cond.classLink "BeltRows" (49 : Nat) "java/lang/UnsupportedOperationException") ∈ TBL := tbl_1 196 rfl rfl
theorem m_197 : (Jvm.Cond.instantiable "java/lang/UnsupportedOperationException" (6 : Nat)) ∈ TBL := tbl_1 197 rfl rfl
theorem m_199 : (Jvm.Cond.selects "java/lang/UnsupportedOperationException" ({ cls := "java/lang/Throwable", name := "fillInStackTrace", desc := "(I)Ljava/lang/Throwable;" } : Jvm.MethodName) ({ cls := "java/lang/Throwable", name := "fillInStackTrace", desc := "(I)Ljava/lang/Throwable;" } : Jvm.MethodName)) ∈ TBL := tbl_1 199 rfl rfl
theorem m_200 : (Jvm.Cond.lays "java/lang/UnsupportedOperationException" "java/lang/Throwable" "cause" "Ljava/lang/Throwable;") ∈ TBL := tbl_1 200 rfl rfl
theorem m_201 : (Jvm.Cond.lays "java/lang/UnsupportedOperationException" "java/lang/Throwable" "stackTrace" "[Ljava/lang/StackTraceElement;") ∈ TBL := tbl_1 201 rfl rfl
theorem m_202 : (Jvm.Cond.lays "java/lang/UnsupportedOperationException" "java/lang/Throwable" "suppressedExceptions" "Ljava/util/List;") ∈ TBL := tbl_1 202 rfl rfl
theorem m_203 : (Jvm.Cond.lays "java/lang/UnsupportedOperationException" "java/lang/Throwable" "detailMessage" "Ljava/lang/String;") ∈ TBL := tbl_1 203 rfl rfl
theorem m_204 : (Jvm.Cond.lays "java/lang/UnsupportedOperationException" "java/lang/Throwable" "backtrace" "Ljava/lang/Object;") ∈ TBL := tbl_1 204 rfl rfl
theorem m_206 : (Jvm.Cond.methodLink "BeltRows" (53 : Nat) ({ cls := "java/lang/UnsupportedOperationException", name := "<init>", desc := "(Ljava/lang/String;)V" } : Jvm.MethodName)) ∈ TBL := tbl_1 206 rfl rfl
theorem m_207 : (Jvm.Cond.instanceMethod ({ cls := "java/lang/UnsupportedOperationException", name := "<init>", desc := "(Ljava/lang/String;)V" } : Jvm.MethodName)) ∈ TBL := tbl_1 207 rfl rfl
theorem m_208 : (Jvm.Cond.code ({ cls := "java/lang/UnsupportedOperationException", name := "<init>", desc := "(Ljava/lang/String;)V" } : Jvm.MethodName) prog_21_method_2_code (2 : Nat) (Option.none : Option Jvm.ClassFile.FieldType)) ∈ TBL := tbl_1 208 rfl rfl
theorem m_209 : (Jvm.Cond.methodLink "java/lang/UnsupportedOperationException" (7 : Nat) ({ cls := "java/lang/RuntimeException", name := "<init>", desc := "(Ljava/lang/String;)V" } : Jvm.MethodName)) ∈ TBL := tbl_1 209 rfl rfl
theorem m_210 : (Jvm.Cond.lays "java/lang/UnsupportedOperationException" "java/lang/Throwable" "depth" "I") ∈ TBL := tbl_1 210 rfl rfl
theorem m_212 : (Jvm.Cond.instantiable "BeltRows$Belt" (9 : Nat)) ∈ TBL := tbl_1 212 rfl rfl
theorem m_213 : (Jvm.Cond.methodLink "BeltRows" (58 : Nat) ({ cls := "BeltRows$Belt", name := "<init>", desc := "(III)V" } : Jvm.MethodName)) ∈ TBL := tbl_1 213 rfl rfl
theorem m_214 : (Jvm.Cond.instanceMethod ({ cls := "BeltRows$Belt", name := "<init>", desc := "(III)V" } : Jvm.MethodName)) ∈ TBL := tbl_1 214 rfl rfl
theorem m_215 : (Jvm.Cond.code ({ cls := "BeltRows$Belt", name := "<init>", desc := "(III)V" } : Jvm.MethodName) prog_2_method_1_code (4 : Nat) (Option.none : Option Jvm.ClassFile.FieldType)) ∈ TBL := tbl_1 215 rfl rfl
theorem m_216 : (Jvm.Cond.methodLink "BeltRows$Belt" (1 : Nat) ({ cls := "java/lang/Object", name := "<init>", desc := "()V" } : Jvm.MethodName)) ∈ TBL := tbl_1 216 rfl rfl
theorem m_217 : (Jvm.Cond.classLink "BeltRows$Belt" (33 : Nat) "BeltRows$Way") ∈ TBL := tbl_1 217 rfl rfl
theorem m_218 : (Jvm.Cond.instantiable "BeltRows$Way" (3 : Nat)) ∈ TBL := tbl_1 218 rfl rfl
theorem m_219 : (Jvm.Cond.methodLink "BeltRows$Belt" (35 : Nat) ({ cls := "BeltRows$Way", name := "<init>", desc := "()V" } : Jvm.MethodName)) ∈ TBL := tbl_1 219 rfl rfl
theorem m_220 : (Jvm.Cond.instanceMethod ({ cls := "BeltRows$Way", name := "<init>", desc := "()V" } : Jvm.MethodName)) ∈ TBL := tbl_1 220 rfl rfl
theorem m_221 : (Jvm.Cond.code ({ cls := "BeltRows$Way", name := "<init>", desc := "()V" } : Jvm.MethodName) prog_6_method_1_code (1 : Nat) (Option.none : Option Jvm.ClassFile.FieldType)) ∈ TBL := tbl_1 221 rfl rfl
theorem m_222 : (Jvm.Cond.methodLink "BeltRows$Way" (3 : Nat) ({ cls := "java/lang/Object", name := "<init>", desc := "()V" } : Jvm.MethodName)) ∈ TBL := tbl_1 222 rfl rfl
theorem m_223 : (Jvm.Cond.fieldLink "BeltRows$Way" (9 : Nat) "BeltRows$Way" "next" "LBeltRows$Belt;") ∈ TBL := tbl_1 223 rfl rfl
theorem m_224 : (Jvm.Cond.fieldLink "BeltRows$Belt" (52 : Nat) "BeltRows$Way" "next" "LBeltRows$Belt;") ∈ TBL := tbl_1 224 rfl rfl
theorem m_225 : (Jvm.Cond.fieldLink "BeltRows" (233 : Nat) "BeltRows$Way" "next" "LBeltRows$Belt;") ∈ TBL := tbl_1 225 rfl rfl
theorem m_226 : (Jvm.Cond.fieldLink "BeltRows$Way" (15 : Nat) "BeltRows$Way" "share" "I") ∈ TBL := tbl_1 226 rfl rfl
theorem m_227 : (Jvm.Cond.fieldLink "BeltRows$Way" (19 : Nat) "BeltRows$Way" "went" "I") ∈ TBL := tbl_1 227 rfl rfl
theorem m_228 : (Jvm.Cond.fieldLink "BeltRows" (210 : Nat) "BeltRows$Way" "went" "I") ∈ TBL := tbl_1 228 rfl rfl
theorem m_229 : (Jvm.Cond.lays "BeltRows$Way" "BeltRows$Way" "next" "LBeltRows$Belt;") ∈ TBL := tbl_1 229 rfl rfl
theorem m_231 : (Jvm.Cond.lays "BeltRows$Way" "BeltRows$Way" "share" "I") ∈ TBL := tbl_1 231 rfl rfl
theorem m_233 : (Jvm.Cond.lays "BeltRows$Way" "BeltRows$Way" "went" "I") ∈ TBL := tbl_1 233 rfl rfl
theorem m_236 : (Jvm.Cond.fieldLink "BeltRows$Belt" (7 : Nat) "BeltRows$Belt" "number" "I") ∈ TBL := tbl_1 236 rfl rfl
theorem m_237 : (Jvm.Cond.fieldLink "BeltRows$Way" (22 : Nat) "BeltRows$Belt" "number" "I") ∈ TBL := tbl_1 237 rfl rfl
theorem m_238 : (Jvm.Cond.fieldLink "BeltRows" (197 : Nat) "BeltRows$Belt" "number" "I") ∈ TBL := tbl_1 238 rfl rfl
theorem m_239 : (Jvm.Cond.fieldLink "BeltRows$Belt" (13 : Nat) "BeltRows$Belt" "length" "I") ∈ TBL := tbl_1 239 rfl rfl
theorem m_240 : (Jvm.Cond.fieldLink "BeltRows$Item" (57 : Nat) "BeltRows$Belt" "length" "I") ∈ TBL := tbl_2 0 rfl rfl
theorem m_241 : (Jvm.Cond.fieldLink "BeltRows" (94 : Nat) "BeltRows$Belt" "length" "I") ∈ TBL := tbl_2 1 rfl rfl
theorem m_242 : (Jvm.Cond.fieldLink "BeltRows$Belt" (16 : Nat) "BeltRows$Belt" "speed" "I") ∈ TBL := tbl_2 2 rfl rfl
theorem m_243 : (Jvm.Cond.fieldLink "BeltRows" (87 : Nat) "BeltRows$Belt" "speed" "I") ∈ TBL := tbl_2 3 rfl rfl
theorem m_244 : (Jvm.Cond.fieldLink "BeltRows$Item" (68 : Nat) "BeltRows$Belt" "speed" "I") ∈ TBL := tbl_2 4 rfl rfl
theorem m_245 : (Jvm.Cond.fieldLink "BeltRows$Belt" (19 : Nat) "BeltRows$Belt" "runs" "Z") ∈ TBL := tbl_2 5 rfl rfl
theorem m_246 : (Jvm.Cond.fieldLink "BeltRows" (90 : Nat) "BeltRows$Belt" "runs" "Z") ∈ TBL := tbl_2 6 rfl rfl
theorem m_247 : (Jvm.Cond.fieldLink "BeltRows$Belt" (23 : Nat) "BeltRows$Belt" "front" "LBeltRows$Item;") ∈ TBL := tbl_2 7 rfl rfl
theorem m_248 : (Jvm.Cond.fieldLink "BeltRows" (185 : Nat) "BeltRows$Belt" "front" "LBeltRows$Item;") ∈ TBL := tbl_2 8 rfl rfl
theorem m_249 : (Jvm.Cond.fieldLink "BeltRows$Belt" (27 : Nat) "BeltRows$Belt" "last" "LBeltRows$Item;") ∈ TBL := tbl_2 9 rfl rfl
theorem m_250 : (Jvm.Cond.fieldLink "BeltRows" (236 : Nat) "BeltRows$Belt" "last" "LBeltRows$Item;") ∈ TBL := tbl_2 10 rfl rfl
theorem m_251 : (Jvm.Cond.fieldLink "BeltRows$Belt" (30 : Nat) "BeltRows$Belt" "size" "I") ∈ TBL := tbl_2 11 rfl rfl
theorem m_252 : (Jvm.Cond.fieldLink "BeltRows" (183 : Nat) "BeltRows$Belt" "size" "I") ∈ TBL := tbl_2 12 rfl rfl
theorem m_253 : (Jvm.Cond.fieldLink "BeltRows$Belt" (36 : Nat) "BeltRows$Belt" "wayZero" "LBeltRows$Way;") ∈ TBL := tbl_2 13 rfl rfl
theorem m_254 : (Jvm.Cond.fieldLink "BeltRows$Belt" (40 : Nat) "BeltRows$Belt" "wayOne" "LBeltRows$Way;") ∈ TBL := tbl_2 14 rfl rfl
theorem m_255 : (Jvm.Cond.laysFinal "BeltRows$Belt" "BeltRows$Belt" "number" "I") ∈ TBL := tbl_2 15 rfl rfl
theorem m_257 : (Jvm.Cond.laysFinal "BeltRows$Belt" "BeltRows$Belt" "length" "I") ∈ TBL := tbl_2 17 rfl rfl
theorem m_259 : (Jvm.Cond.lays "BeltRows$Belt" "BeltRows$Belt" "speed" "I") ∈ TBL := tbl_2 19 rfl rfl
theorem m_261 : (Jvm.Cond.lays "BeltRows$Belt" "BeltRows$Belt" "runs" "Z") ∈ TBL := tbl_2 21 rfl rfl
theorem m_263 : (Jvm.Cond.lays "BeltRows$Belt" "BeltRows$Belt" "front" "LBeltRows$Item;") ∈ TBL := tbl_2 23 rfl rfl
theorem m_265 : (Jvm.Cond.lays "BeltRows$Belt" "BeltRows$Belt" "last" "LBeltRows$Item;") ∈ TBL := tbl_2 25 rfl rfl
theorem m_267 : (Jvm.Cond.lays "BeltRows$Belt" "BeltRows$Belt" "size" "I") ∈ TBL := tbl_2 27 rfl rfl
theorem m_269 : (Jvm.Cond.laysFinal "BeltRows$Belt" "BeltRows$Belt" "wayZero" "LBeltRows$Way;") ∈ TBL := tbl_2 29 rfl rfl
theorem m_271 : (Jvm.Cond.laysFinal "BeltRows$Belt" "BeltRows$Belt" "wayOne" "LBeltRows$Way;") ∈ TBL := tbl_2 31 rfl rfl
theorem m_274 : (Jvm.Cond.methodLink "BeltRows" (60 : Nat) ({ cls := "java/util/ArrayList", name := "add", desc := "(Ljava/lang/Object;)Z" } : Jvm.MethodName)) ∈ TBL := tbl_2 34 rfl rfl
theorem m_275 : (Jvm.Cond.instanceMethod ({ cls := "java/util/ArrayList", name := "add", desc := "(Ljava/lang/Object;)Z" } : Jvm.MethodName)) ∈ TBL := tbl_2 35 rfl rfl
theorem m_276 : (Jvm.Cond.selects "java/util/ArrayList" ({ cls := "java/util/ArrayList", name := "add", desc := "(Ljava/lang/Object;)Z" } : Jvm.MethodName) ({ cls := "java/util/ArrayList", name := "add", desc := "(Ljava/lang/Object;)Z" } : Jvm.MethodName)) ∈ TBL := tbl_2 36 rfl rfl
theorem m_277 : (Jvm.Cond.code ({ cls := "java/util/ArrayList", name := "add", desc := "(Ljava/lang/Object;)Z" } : Jvm.MethodName) prog_24_method_25_code (2 : Nat) (Option.some Jvm.ClassFile.FieldType.boolean)) ∈ TBL := tbl_2 37 rfl rfl
theorem m_278 : (Jvm.Cond.methodLink "java/util/ArrayList" (131 : Nat) ({ cls := "java/util/ArrayList", name := "add", desc := "(Ljava/lang/Object;[Ljava/lang/Object;I)V" } : Jvm.MethodName)) ∈ TBL := tbl_2 38 rfl rfl
theorem m_280 : (Jvm.Cond.instanceMethod ({ cls := "java/util/ArrayList", name := "add", desc := "(Ljava/lang/Object;[Ljava/lang/Object;I)V" } : Jvm.MethodName)) ∈ TBL := tbl_2 40 rfl rfl
theorem m_281 : (Jvm.Cond.code ({ cls := "java/util/ArrayList", name := "add", desc := "(Ljava/lang/Object;[Ljava/lang/Object;I)V" } : Jvm.MethodName) prog_24_method_24_code (4 : Nat) (Option.none : Option Jvm.ClassFile.FieldType)) ∈ TBL := tbl_2 41 rfl rfl
theorem m_282 : (Jvm.Cond.methodLink "java/util/ArrayList" (129 : Nat) ({ cls := "java/util/ArrayList", name := "grow", desc := "()[Ljava/lang/Object;" } : Jvm.MethodName)) ∈ TBL := tbl_2 42 rfl rfl
theorem m_284 : (Jvm.Cond.instanceMethod ({ cls := "java/util/ArrayList", name := "grow", desc := "()[Ljava/lang/Object;" } : Jvm.MethodName)) ∈ TBL := tbl_2 44 rfl rfl
theorem m_285 : (Jvm.Cond.code ({ cls := "java/util/ArrayList", name := "grow", desc := "()[Ljava/lang/Object;" } : Jvm.MethodName) prog_24_method_7_code (1 : Nat) (Option.some (Jvm.ClassFile.FieldType.array (Jvm.ClassFile.FieldType.object "java/lang/Object")))) ∈ TBL := tbl_2 45 rfl rfl
theorem m_286 : (Jvm.Cond.methodLink "java/util/ArrayList" (69 : Nat) ({ cls := "java/util/ArrayList", name := "grow", desc := "(I)[Ljava/lang/Object;" } : Jvm.MethodName)) ∈ TBL := tbl_2 46 rfl rfl
theorem m_288 : (Jvm.Cond.instanceMethod ({ cls := "java/util/ArrayList", name := "grow", desc := "(I)[Ljava/lang/Object;" } : Jvm.MethodName)) ∈ TBL := tbl_2 48 rfl rfl
theorem m_289 : (Jvm.Cond.code ({ cls := "java/util/ArrayList", name := "grow", desc := "(I)[Ljava/lang/Object;" } : Jvm.MethodName) prog_24_method_6_code (4 : Nat) (Option.some (Jvm.ClassFile.FieldType.array (Jvm.ClassFile.FieldType.object "java/lang/Object")))) ∈ TBL := tbl_2 49 rfl rfl
theorem m_290 : (Jvm.Cond.methodLink "java/util/ArrayList" (73 : Nat) ({ cls := "jdk/internal/util/ArraysSupport", name := "newLength", desc := "(III)I" } : Jvm.MethodName)) ∈ TBL := tbl_2 50 rfl rfl
theorem m_291 : (Jvm.Cond.static ({ cls := "jdk/internal/util/ArraysSupport", name := "newLength", desc := "(III)I" } : Jvm.MethodName)) ∈ TBL := tbl_2 51 rfl rfl
theorem m_292 : (Jvm.Cond.code ({ cls := "jdk/internal/util/ArraysSupport", name := "newLength", desc := "(III)I" } : Jvm.MethodName) prog_32_method_27_code (4 : Nat) (Option.some Jvm.ClassFile.FieldType.int)) ∈ TBL := tbl_2 52 rfl rfl
theorem m_293 : (Jvm.Cond.methodLink "jdk/internal/util/ArraysSupport" (194 : Nat) ({ cls := "java/lang/Math", name := "max", desc := "(II)I" } : Jvm.MethodName)) ∈ TBL := tbl_2 53 rfl rfl
theorem m_294 : (Jvm.Cond.static ({ cls := "java/lang/Math", name := "max", desc := "(II)I" } : Jvm.MethodName)) ∈ TBL := tbl_2 54 rfl rfl
theorem m_295 : (Jvm.Cond.code ({ cls := "java/lang/Math", name := "max", desc := "(II)I" } : Jvm.MethodName) prog_16_method_65_code (2 : Nat) (Option.some Jvm.ClassFile.FieldType.int)) ∈ TBL := tbl_2 55 rfl rfl
theorem m_296 : (Jvm.Cond.constant "jdk/internal/util/ArraysSupport" (200 : Nat) (2147483639 : Int32)) ∈ TBL := tbl_2 56 rfl rfl
theorem m_297 : (Jvm.Cond.methodLink "jdk/internal/util/ArraysSupport" (201 : Nat) ({ cls := "jdk/internal/util/ArraysSupport", name := "hugeLength", desc := "(II)I" } : Jvm.MethodName)) ∈ TBL := tbl_2 57 rfl rfl
theorem m_298 : (Jvm.Cond.static ({ cls := "jdk/internal/util/ArraysSupport", name := "hugeLength", desc := "(II)I" } : Jvm.MethodName)) ∈ TBL := tbl_2 58 rfl rfl
theorem m_299 : (Jvm.Cond.code ({ cls := "jdk/internal/util/ArraysSupport", name := "hugeLength", desc := "(II)I" } : Jvm.MethodName) prog_32_method_28_code (3 : Nat) (Option.some Jvm.ClassFile.FieldType.int)) ∈ TBL := tbl_2 59 rfl rfl
theorem m_300 : (Jvm.Cond.methodLink "java/util/ArrayList" (66 : Nat) ({ cls := "java/util/Arrays", name := "copyOf", desc := "([Ljava/lang/Object;I)[Ljava/lang/Object;" } : Jvm.MethodName)) ∈ TBL := tbl_2 60 rfl rfl
theorem m_301 : (Jvm.Cond.static ({ cls := "java/util/Arrays", name := "copyOf", desc := "([Ljava/lang/Object;I)[Ljava/lang/Object;" } : Jvm.MethodName)) ∈ TBL := tbl_2 61 rfl rfl
theorem m_302 : (Jvm.Cond.code ({ cls := "java/util/Arrays", name := "copyOf", desc := "([Ljava/lang/Object;I)[Ljava/lang/Object;" } : Jvm.MethodName) prog_25_method_119_code (2 : Nat) (Option.some (Jvm.ClassFile.FieldType.array (Jvm.ClassFile.FieldType.object "java/lang/Object")))) ∈ TBL := tbl_2 62 rfl rfl
theorem m_303 : (Jvm.Cond.methodLink "java/util/Arrays" (86 : Nat) ({ cls := "java/lang/Object", name := "getClass", desc := "()Ljava/lang/Class;" } : Jvm.MethodName)) ∈ TBL := tbl_2 63 rfl rfl
theorem m_304 : (Jvm.Cond.instanceMethod ({ cls := "java/lang/Object", name := "getClass", desc := "()Ljava/lang/Class;" } : Jvm.MethodName)) ∈ TBL := tbl_2 64 rfl rfl
theorem m_306 : (Jvm.Cond.selects "BeltRows" ({ cls := "java/lang/Object", name := "getClass", desc := "()Ljava/lang/Class;" } : Jvm.MethodName) ({ cls := "java/lang/Object", name := "getClass", desc := "()Ljava/lang/Class;" } : Jvm.MethodName)) ∈ TBL := tbl_2 66 rfl rfl
theorem m_307 : (Jvm.Cond.selects "BeltRows$Belt" ({ cls := "java/lang/Object", name := "getClass", desc := "()Ljava/lang/Class;" } : Jvm.MethodName) ({ cls := "java/lang/Object", name := "getClass", desc := "()Ljava/lang/Class;" } : Jvm.MethodName)) ∈ TBL := tbl_2 67 rfl rfl
theorem m_308 : (Jvm.Cond.selects "BeltRows$Edge" ({ cls := "java/lang/Object", name := "getClass", desc := "()Ljava/lang/Class;" } : Jvm.MethodName) ({ cls := "java/lang/Object", name := "getClass", desc := "()Ljava/lang/Class;" } : Jvm.MethodName)) ∈ TBL := tbl_2 68 rfl rfl
theorem m_309 : (Jvm.Cond.selects "BeltRows$Item" ({ cls := "java/lang/Object", name := "getClass", desc := "()Ljava/lang/Class;" } : Jvm.MethodName) ({ cls := "java/lang/Object", name := "getClass", desc := "()Ljava/lang/Class;" } : Jvm.MethodName)) ∈ TBL := tbl_2 69 rfl rfl
theorem m_310 : (Jvm.Cond.selects "BeltRows$Scanner" ({ cls := "java/lang/Object", name := "getClass", desc := "()Ljava/lang/Class;" } : Jvm.MethodName) ({ cls := "java/lang/Object", name := "getClass", desc := "()Ljava/lang/Class;" } : Jvm.MethodName)) ∈ TBL := tbl_2 70 rfl rfl
theorem m_311 : (Jvm.Cond.selects "BeltRows$Way" ({ cls := "java/lang/Object", name := "getClass", desc := "()Ljava/lang/Class;" } : Jvm.MethodName) ({ cls := "java/lang/Object", name := "getClass", desc := "()Ljava/lang/Class;" } : Jvm.MethodName)) ∈ TBL := tbl_2 71 rfl rfl
theorem m_312 : (Jvm.Cond.selects "BeltRowsModel" ({ cls := "java/lang/Object", name := "getClass", desc := "()Ljava/lang/Class;" } : Jvm.MethodName) ({ cls := "java/lang/Object", name := "getClass", desc := "()Ljava/lang/Class;" } : Jvm.MethodName)) ∈ TBL := tbl_2 72 rfl rfl
theorem m_313 : (Jvm.Cond.selects "java/lang/ArithmeticException" ({ cls := "java/lang/Object", name := "getClass", desc := "()Ljava/lang/Class;" } : Jvm.MethodName) ({ cls := "java/lang/Object", name := "getClass", desc := "()Ljava/lang/Class;" } : Jvm.MethodName)) ∈ TBL := tbl_2 73 rfl rfl
theorem m_314 : (Jvm.Cond.selects "java/lang/IllegalArgumentException" ({ cls := "java/lang/Object", name := "getClass", desc := "()Ljava/lang/Class;" } : Jvm.MethodName) ({ cls := "java/lang/Object", name := "getClass", desc := "()Ljava/lang/Class;" } : Jvm.MethodName)) ∈ TBL := tbl_2 74 rfl rfl
theorem m_315 : (Jvm.Cond.selects "java/lang/IllegalStateException" ({ cls := "java/lang/Object", name := "getClass", desc := "()Ljava/lang/Class;" } : Jvm.MethodName) ({ cls := "java/lang/Object", name := "getClass", desc := "()Ljava/lang/Class;" } : Jvm.MethodName)) ∈ TBL := tbl_2 75 rfl rfl
theorem m_316 : (Jvm.Cond.selects "java/lang/UnsupportedOperationException" ({ cls := "java/lang/Object", name := "getClass", desc := "()Ljava/lang/Class;" } : Jvm.MethodName) ({ cls := "java/lang/Object", name := "getClass", desc := "()Ljava/lang/Class;" } : Jvm.MethodName)) ∈ TBL := tbl_2 76 rfl rfl
theorem m_317 : (Jvm.Cond.selects "java/util/ArrayList" ({ cls := "java/lang/Object", name := "getClass", desc := "()Ljava/lang/Class;" } : Jvm.MethodName) ({ cls := "java/lang/Object", name := "getClass", desc := "()Ljava/lang/Class;" } : Jvm.MethodName)) ∈ TBL := tbl_2 77 rfl rfl
theorem m_318 : (Jvm.Cond.selects "java/util/NoSuchElementException" ({ cls := "java/lang/Object", name := "getClass", desc := "()Ljava/lang/Class;" } : Jvm.MethodName) ({ cls := "java/lang/Object", name := "getClass", desc := "()Ljava/lang/Class;" } : Jvm.MethodName)) ∈ TBL := tbl_2 78 rfl rfl
theorem m_320 : (Jvm.Cond.methodLink "java/util/Arrays" (300 : Nat) ({ cls := "java/util/Arrays", name := "copyOf", desc := "([Ljava/lang/Object;ILjava/lang/Class;)[Ljava/lang/Object;" } : Jvm.MethodName)) ∈ TBL := tbl_2 80 rfl rfl
theorem m_321 : (Jvm.Cond.static ({ cls := "java/util/Arrays", name := "copyOf", desc := "([Ljava/lang/Object;ILjava/lang/Class;)[Ljava/lang/Object;" } : Jvm.MethodName)) ∈ TBL := tbl_2 81 rfl rfl
theorem m_322 : (Jvm.Cond.code ({ cls := "java/util/Arrays", name := "copyOf", desc := "([Ljava/lang/Object;ILjava/lang/Class;)[Ljava/lang/Object;" } : Jvm.MethodName) prog_25_method_120_code (4 : Nat) (Option.some (Jvm.ClassFile.FieldType.array (Jvm.ClassFile.FieldType.object "java/lang/Object")))) ∈ TBL := tbl_2 82 rfl rfl
theorem m_323 : (Jvm.Cond.classLink "java/util/Arrays" (110 : Nat) "[Ljava/lang/Object;") ∈ TBL := tbl_2 83 rfl rfl
theorem m_325 : (Jvm.Cond.classLink "java/util/Arrays" (2 : Nat) "java/lang/Object") ∈ TBL := tbl_2 85 rfl rfl
theorem m_326 : (Jvm.Cond.methodLink "java/util/Arrays" (304 : Nat) ({ cls := "java/lang/Math", name := "min", desc := "(II)I" } : Jvm.MethodName)) ∈ TBL := tbl_2 86 rfl rfl
theorem m_327 : (Jvm.Cond.static ({ cls := "java/lang/Math", name := "min", desc := "(II)I" } : Jvm.MethodName)) ∈ TBL := tbl_2 87 rfl rfl
theorem m_328 : (Jvm.Cond.code ({ cls := "java/lang/Math", name := "min", desc := "(II)I" } : Jvm.MethodName) prog_16_method_69_code (2 : Nat) (Option.some Jvm.ClassFile.FieldType.int)) ∈ TBL := tbl_2 88 rfl rfl
theorem m_329 : (Jvm.Cond.methodLink "java/util/Arrays" (150 : Nat) ({ cls := "java/lang/System", name := "arraycopy", desc := "(Ljava/lang/Object;ILjava/lang/Object;II)V" } : Jvm.MethodName)) ∈ TBL := tbl_2 89 rfl rfl
theorem m_330 : (Jvm.Cond.static ({ cls := "java/lang/System", name := "arraycopy", desc := "(Ljava/lang/Object;ILjava/lang/Object;II)V" } : Jvm.MethodName)) ∈ TBL := tbl_2 90 rfl rfl
theorem m_332 : (Jvm.Cond.methodLink "java/util/ArrayList" (79 : Nat) ({ cls := "java/lang/Math", name := "max", desc := "(II)I" } : Jvm.MethodName)) ∈ TBL := tbl_2 92 rfl rfl
theorem m_333 : (Jvm.Cond.classLink "java/util/ArrayList" (7 : Nat) "java/lang/Object") ∈ TBL := tbl_2 93 rfl rfl
theorem m_334 : (Jvm.Cond.methodLink "BeltRowsLaw" (87 : Nat) ({ cls := "BeltRowsLaw", name := "join", desc := "(LBeltRows;IIII[J)I" } : Jvm.MethodName)) ∈ TBL := tbl_2 94 rfl rfl
theorem m_335 : (Jvm.Cond.static ({ cls := "BeltRowsLaw", name := "join", desc := "(LBeltRows;IIII[J)I" } : Jvm.MethodName)) ∈ TBL := tbl_2 95 rfl rfl
theorem m_336 : (Jvm.Cond.codeWith ({ cls := "BeltRowsLaw", name := "join", desc := "(LBeltRows;IIII[J)I" } : Jvm.MethodName) method_4_code (7 : Nat) (Option.some Jvm.ClassFile.FieldType.int) [((0 : Nat), (14 : Nat), (17 : Nat), (21 : Nat)), ((0 : Nat), (14 : Nat), (21 : Nat), (13 : Nat))]) ∈ TBL := tbl_2 96 rfl rfl
theorem m_337 : (Jvm.Cond.classLink "BeltRowsLaw" (21 : Nat) "java/util/NoSuchElementException") ∈ TBL := tbl_2 97 rfl rfl
theorem m_338 : (Jvm.Cond.methodLink "BeltRowsLaw" (17 : Nat) ({ cls := "BeltRows", name := "join", desc := "(IIII)I" } : Jvm.MethodName)) ∈ TBL := tbl_2 98 rfl rfl
theorem m_339 : (Jvm.Cond.instanceMethod ({ cls := "BeltRows", name := "join", desc := "(IIII)I" } : Jvm.MethodName)) ∈ TBL := tbl_2 99 rfl rfl
theorem m_340 : (Jvm.Cond.selects "BeltRows" ({ cls := "BeltRows", name := "join", desc := "(IIII)I" } : Jvm.MethodName) ({ cls := "BeltRows", name := "join", desc := "(IIII)I" } : Jvm.MethodName)) ∈ TBL := tbl_2 100 rfl rfl
theorem m_341 : (Jvm.Cond.code ({ cls := "BeltRows", name := "join", desc := "(IIII)I" } : Jvm.MethodName) prog_1_method_3_code (7 : Nat) (Option.some Jvm.ClassFile.FieldType.int)) ∈ TBL := tbl_2 101 rfl rfl
theorem m_342 : (Jvm.Cond.methodLink "BeltRows" (64 : Nat) ({ cls := "BeltRows", name := "findBelt", desc := "(I)LBeltRows$Belt;" } : Jvm.MethodName)) ∈ TBL := tbl_2 102 rfl rfl
theorem m_344 : (Jvm.Cond.instanceMethod ({ cls := "BeltRows", name := "findBelt", desc := "(I)LBeltRows$Belt;" } : Jvm.MethodName)) ∈ TBL := tbl_2 104 rfl rfl
theorem m_345 : (Jvm.Cond.code ({ cls := "BeltRows", name := "findBelt", desc := "(I)LBeltRows$Belt;" } : Jvm.MethodName) prog_1_method_22_code (2 : Nat) (Option.some (Jvm.ClassFile.FieldType.object "BeltRows$Belt"))) ∈ TBL := tbl_2 105 rfl rfl
theorem m_346 : (Jvm.Cond.classLink "BeltRows" (135 : Nat) "java/util/NoSuchElementException") ∈ TBL := tbl_2 106 rfl rfl
theorem m_347 : (Jvm.Cond.instantiable "java/util/NoSuchElementException" (6 : Nat)) ∈ TBL := tbl_2 107 rfl rfl
theorem m_349 : (Jvm.Cond.selects "java/util/NoSuchElementException" ({ cls := "java/lang/Throwable", name := "fillInStackTrace", desc := "(I)Ljava/lang/Throwable;" } : Jvm.MethodName) ({ cls := "java/lang/Throwable", name := "fillInStackTrace", desc := "(I)Ljava/lang/Throwable;" } : Jvm.MethodName)) ∈ TBL := tbl_2 109 rfl rfl
theorem m_350 : (Jvm.Cond.lays "java/util/NoSuchElementException" "java/lang/Throwable" "cause" "Ljava/lang/Throwable;") ∈ TBL := tbl_2 110 rfl rfl
theorem m_351 : (Jvm.Cond.lays "java/util/NoSuchElementException" "java/lang/Throwable" "stackTrace" "[Ljava/lang/StackTraceElement;") ∈ TBL := tbl_2 111 rfl rfl
theorem m_352 : (Jvm.Cond.lays "java/util/NoSuchElementException" "java/lang/Throwable" "suppressedExceptions" "Ljava/util/List;") ∈ TBL := tbl_2 112 rfl rfl
theorem m_353 : (Jvm.Cond.lays "java/util/NoSuchElementException" "java/lang/Throwable" "detailMessage" "Ljava/lang/String;") ∈ TBL := tbl_2 113 rfl rfl
theorem m_354 : (Jvm.Cond.lays "java/util/NoSuchElementException" "java/lang/Throwable" "backtrace" "Ljava/lang/Object;") ∈ TBL := tbl_2 114 rfl rfl
theorem m_356 : (Jvm.Cond.methodLink "BeltRows" (139 : Nat) ({ cls := "java/util/NoSuchElementException", name := "<init>", desc := "(Ljava/lang/String;)V" } : Jvm.MethodName)) ∈ TBL := tbl_2 116 rfl rfl
theorem m_357 : (Jvm.Cond.instanceMethod ({ cls := "java/util/NoSuchElementException", name := "<init>", desc := "(Ljava/lang/String;)V" } : Jvm.MethodName)) ∈ TBL := tbl_2 117 rfl rfl
theorem m_358 : (Jvm.Cond.code ({ cls := "java/util/NoSuchElementException", name := "<init>", desc := "(Ljava/lang/String;)V" } : Jvm.MethodName) prog_28_method_4_code (2 : Nat) (Option.none : Option Jvm.ClassFile.FieldType)) ∈ TBL := tbl_2 118 rfl rfl
theorem m_359 : (Jvm.Cond.methodLink "java/util/NoSuchElementException" (13 : Nat) ({ cls := "java/lang/RuntimeException", name := "<init>", desc := "(Ljava/lang/String;)V" } : Jvm.MethodName)) ∈ TBL := tbl_2 119 rfl rfl
theorem m_360 : (Jvm.Cond.lays "java/util/NoSuchElementException" "java/lang/Throwable" "depth" "I") ∈ TBL := tbl_2 120 rfl rfl
theorem m_363 : (Jvm.Cond.methodLink "BeltRows" (73 : Nat) ({ cls := "BeltRows$Belt", name := "wayNumbered", desc := "(I)LBeltRows$Way;" } : Jvm.MethodName)) ∈ TBL := tbl_2 123 rfl rfl
theorem m_364 : (Jvm.Cond.instanceMethod ({ cls := "BeltRows$Belt", name := "wayNumbered", desc := "(I)LBeltRows$Way;" } : Jvm.MethodName)) ∈ TBL := tbl_2 124 rfl rfl
theorem m_365 : (Jvm.Cond.selects "BeltRows$Belt" ({ cls := "BeltRows$Belt", name := "wayNumbered", desc := "(I)LBeltRows$Way;" } : Jvm.MethodName) ({ cls := "BeltRows$Belt", name := "wayNumbered", desc := "(I)LBeltRows$Way;" } : Jvm.MethodName)) ∈ TBL := tbl_2 125 rfl rfl
theorem m_366 : (Jvm.Cond.code ({ cls := "BeltRows$Belt", name := "wayNumbered", desc := "(I)LBeltRows$Way;" } : Jvm.MethodName) prog_2_method_2_code (2 : Nat) (Option.some (Jvm.ClassFile.FieldType.object "BeltRows$Way"))) ∈ TBL := tbl_2 126 rfl rfl
theorem m_367 : (Jvm.Cond.methodLink "BeltRows" (77 : Nat) ({ cls := "BeltRows$Way", name := "leadTo", desc := "(LBeltRows$Belt;I)V" } : Jvm.MethodName)) ∈ TBL := tbl_2 127 rfl rfl
theorem m_368 : (Jvm.Cond.instanceMethod ({ cls := "BeltRows$Way", name := "leadTo", desc := "(LBeltRows$Belt;I)V" } : Jvm.MethodName)) ∈ TBL := tbl_2 128 rfl rfl
theorem m_369 : (Jvm.Cond.selects "BeltRows$Way" ({ cls := "BeltRows$Way", name := "leadTo", desc := "(LBeltRows$Belt;I)V" } : Jvm.MethodName) ({ cls := "BeltRows$Way", name := "leadTo", desc := "(LBeltRows$Belt;I)V" } : Jvm.MethodName)) ∈ TBL := tbl_2 129 rfl rfl
theorem m_370 : (Jvm.Cond.code ({ cls := "BeltRows$Way", name := "leadTo", desc := "(LBeltRows$Belt;I)V" } : Jvm.MethodName) prog_6_method_2_code (3 : Nat) (Option.none : Option Jvm.ClassFile.FieldType)) ∈ TBL := tbl_2 130 rfl rfl
theorem m_371 : (Jvm.Cond.methodLink "BeltRows" (83 : Nat) ({ cls := "BeltRows", name := "waysTo", desc := "(LBeltRows$Belt;)I" } : Jvm.MethodName)) ∈ TBL := tbl_2 131 rfl rfl
theorem m_373 : (Jvm.Cond.instanceMethod ({ cls := "BeltRows", name := "waysTo", desc := "(LBeltRows$Belt;)I" } : Jvm.MethodName)) ∈ TBL := tbl_2 133 rfl rfl
theorem m_374 : (Jvm.Cond.code ({ cls := "BeltRows", name := "waysTo", desc := "(LBeltRows$Belt;)I" } : Jvm.MethodName) prog_1_method_24_code (5 : Nat) (Option.some Jvm.ClassFile.FieldType.int)) ∈ TBL := tbl_2 134 rfl rfl
theorem m_375 : (Jvm.Cond.methodLink "BeltRowsLaw" (91 : Nat) ({ cls := "BeltRowsLaw", name := "run", desc := "(LBeltRows;IIZ)I" } : Jvm.MethodName)) ∈ TBL := tbl_2 135 rfl rfl
theorem m_376 : (Jvm.Cond.static ({ cls := "BeltRowsLaw", name := "run", desc := "(LBeltRows;IIZ)I" } : Jvm.MethodName)) ∈ TBL := tbl_2 136 rfl rfl
theorem m_377 : (Jvm.Cond.codeWith ({ cls := "BeltRowsLaw", name := "run", desc := "(LBeltRows;IIZ)I" } : Jvm.MethodName) method_5_code (5 : Nat) (Option.some Jvm.ClassFile.FieldType.int) [((0 : Nat), (7 : Nat), (10 : Nat), (21 : Nat)), ((0 : Nat), (7 : Nat), (14 : Nat), (13 : Nat))]) ∈ TBL := tbl_2 137 rfl rfl
theorem m_378 : (Jvm.Cond.methodLink "BeltRowsLaw" (23 : Nat) ({ cls := "BeltRows", name := "run", desc := "(IIZ)V" } : Jvm.MethodName)) ∈ TBL := tbl_2 138 rfl rfl
theorem m_379 : (Jvm.Cond.instanceMethod ({ cls := "BeltRows", name := "run", desc := "(IIZ)V" } : Jvm.MethodName)) ∈ TBL := tbl_2 139 rfl rfl
theorem m_380 : (Jvm.Cond.selects "BeltRows" ({ cls := "BeltRows", name := "run", desc := "(IIZ)V" } : Jvm.MethodName) ({ cls := "BeltRows", name := "run", desc := "(IIZ)V" } : Jvm.MethodName)) ∈ TBL := tbl_2 140 rfl rfl
theorem m_381 : (Jvm.Cond.code ({ cls := "BeltRows", name := "run", desc := "(IIZ)V" } : Jvm.MethodName) prog_1_method_4_code (5 : Nat) (Option.none : Option Jvm.ClassFile.FieldType)) ∈ TBL := tbl_2 141 rfl rfl
theorem m_382 : (Jvm.Cond.methodLink "BeltRowsLaw" (95 : Nat) ({ cls := "BeltRowsLaw", name := "gaps", desc := "(LBeltRows;I)I" } : Jvm.MethodName)) ∈ TBL := tbl_2 142 rfl rfl
theorem m_383 : (Jvm.Cond.static ({ cls := "BeltRowsLaw", name := "gaps", desc := "(LBeltRows;I)I" } : Jvm.MethodName)) ∈ TBL := tbl_2 143 rfl rfl
theorem m_384 : (Jvm.Cond.codeWith ({ cls := "BeltRowsLaw", name := "gaps", desc := "(LBeltRows;I)I" } : Jvm.MethodName) method_6_code (3 : Nat) (Option.some Jvm.ClassFile.FieldType.int) [((0 : Nat), (5 : Nat), (8 : Nat), (13 : Nat))]) ∈ TBL := tbl_2 144 rfl rfl
theorem m_385 : (Jvm.Cond.methodLink "BeltRowsLaw" (27 : Nat) ({ cls := "BeltRows", name := "gaps", desc := "(I)V" } : Jvm.MethodName)) ∈ TBL := tbl_2 145 rfl rfl
theorem m_386 : (Jvm.Cond.instanceMethod ({ cls := "BeltRows", name := "gaps", desc := "(I)V" } : Jvm.MethodName)) ∈ TBL := tbl_2 146 rfl rfl
theorem m_387 : (Jvm.Cond.selects "BeltRows" ({ cls := "BeltRows", name := "gaps", desc := "(I)V" } : Jvm.MethodName) ({ cls := "BeltRows", name := "gaps", desc := "(I)V" } : Jvm.MethodName)) ∈ TBL := tbl_2 147 rfl rfl
theorem m_388 : (Jvm.Cond.code ({ cls := "BeltRows", name := "gaps", desc := "(I)V" } : Jvm.MethodName) prog_1_method_5_code (2 : Nat) (Option.none : Option Jvm.ClassFile.FieldType)) ∈ TBL := tbl_2 148 rfl rfl
theorem m_389 : (Jvm.Cond.methodLink "BeltRowsLaw" (99 : Nat) ({ cls := "BeltRowsLaw", name := "scanner", desc := "(LBeltRows;III[J)I" } : Jvm.MethodName)) ∈ TBL := tbl_2 149 rfl rfl
theorem m_390 : (Jvm.Cond.static ({ cls := "BeltRowsLaw", name := "scanner", desc := "(LBeltRows;III[J)I" } : Jvm.MethodName)) ∈ TBL := tbl_2 150 rfl rfl
theorem m_391 : (Jvm.Cond.codeWith ({ cls := "BeltRowsLaw", name := "scanner", desc := "(LBeltRows;III[J)I" } : Jvm.MethodName) method_7_code (6 : Nat) (Option.some Jvm.ClassFile.FieldType.int) [((0 : Nat), (12 : Nat), (15 : Nat), (21 : Nat)), ((0 : Nat), (12 : Nat), (19 : Nat), (13 : Nat)), ((0 : Nat), (12 : Nat), (23 : Nat), (15 : Nat))]) ∈ TBL := tbl_2 151 rfl rfl
theorem m_392 : (Jvm.Cond.methodLink "BeltRowsLaw" (31 : Nat) ({ cls := "BeltRows", name := "scanner", desc := "(III)I" } : Jvm.MethodName)) ∈ TBL := tbl_2 152 rfl rfl
theorem m_393 : (Jvm.Cond.instanceMethod ({ cls := "BeltRows", name := "scanner", desc := "(III)I" } : Jvm.MethodName)) ∈ TBL := tbl_2 153 rfl rfl
theorem m_394 : (Jvm.Cond.selects "BeltRows" ({ cls := "BeltRows", name := "scanner", desc := "(III)I" } : Jvm.MethodName) ({ cls := "BeltRows", name := "scanner", desc := "(III)I" } : Jvm.MethodName)) ∈ TBL := tbl_2 154 rfl rfl
theorem m_395 : (Jvm.Cond.code ({ cls := "BeltRows", name := "scanner", desc := "(III)I" } : Jvm.MethodName) prog_1_method_6_code (6 : Nat) (Option.some Jvm.ClassFile.FieldType.int)) ∈ TBL := tbl_2 155 rfl rfl
theorem m_397 : (Jvm.Cond.classLink "BeltRows" (99 : Nat) "BeltRows$Scanner") ∈ TBL := tbl_2 157 rfl rfl
theorem m_398 : (Jvm.Cond.instantiable "BeltRows$Scanner" (4 : Nat)) ∈ TBL := tbl_2 158 rfl rfl
theorem m_399 : (Jvm.Cond.methodLink "BeltRows" (101 : Nat) ({ cls := "BeltRows$Scanner", name := "<init>", desc := "(ILBeltRows$Belt;II)V" } : Jvm.MethodName)) ∈ TBL := tbl_2 159 rfl rfl
theorem m_400 : (Jvm.Cond.instanceMethod ({ cls := "BeltRows$Scanner", name := "<init>", desc := "(ILBeltRows$Belt;II)V" } : Jvm.MethodName)) ∈ TBL := tbl_2 160 rfl rfl
theorem m_401 : (Jvm.Cond.code ({ cls := "BeltRows$Scanner", name := "<init>", desc := "(ILBeltRows$Belt;II)V" } : Jvm.MethodName) prog_5_method_1_code (5 : Nat) (Option.none : Option Jvm.ClassFile.FieldType)) ∈ TBL := tbl_2 161 rfl rfl
theorem m_402 : (Jvm.Cond.methodLink "BeltRows$Scanner" (1 : Nat) ({ cls := "java/lang/Object", name := "<init>", desc := "()V" } : Jvm.MethodName)) ∈ TBL := tbl_2 162 rfl rfl
theorem m_403 : (Jvm.Cond.fieldLink "BeltRows$Scanner" (7 : Nat) "BeltRows$Scanner" "number" "I") ∈ TBL := tbl_2 163 rfl rfl
theorem m_404 : (Jvm.Cond.fieldLink "BeltRows" (307 : Nat) "BeltRows$Scanner" "number" "I") ∈ TBL := tbl_2 164 rfl rfl
theorem m_405 : (Jvm.Cond.fieldLink "BeltRows$Scanner" (13 : Nat) "BeltRows$Scanner" "belt" "LBeltRows$Belt;") ∈ TBL := tbl_2 165 rfl rfl
theorem m_406 : (Jvm.Cond.fieldLink "BeltRows" (302 : Nat) "BeltRows$Scanner" "belt" "LBeltRows$Belt;") ∈ TBL := tbl_2 166 rfl rfl
theorem m_407 : (Jvm.Cond.fieldLink "BeltRows$Scanner" (17 : Nat) "BeltRows$Scanner" "place" "I") ∈ TBL := tbl_2 167 rfl rfl
theorem m_408 : (Jvm.Cond.fieldLink "BeltRows" (303 : Nat) "BeltRows$Scanner" "place" "I") ∈ TBL := tbl_2 168 rfl rfl
theorem m_409 : (Jvm.Cond.fieldLink "BeltRows$Scanner" (20 : Nat) "BeltRows$Scanner" "delay" "I") ∈ TBL := tbl_2 169 rfl rfl
theorem m_410 : (Jvm.Cond.fieldLink "BeltRows" (304 : Nat) "BeltRows$Scanner" "delay" "I") ∈ TBL := tbl_2 170 rfl rfl
theorem m_411 : (Jvm.Cond.laysFinal "BeltRows$Scanner" "BeltRows$Scanner" "number" "I") ∈ TBL := tbl_2 171 rfl rfl
theorem m_413 : (Jvm.Cond.laysFinal "BeltRows$Scanner" "BeltRows$Scanner" "belt" "LBeltRows$Belt;") ∈ TBL := tbl_2 173 rfl rfl
theorem m_415 : (Jvm.Cond.laysFinal "BeltRows$Scanner" "BeltRows$Scanner" "place" "I") ∈ TBL := tbl_2 175 rfl rfl
theorem m_417 : (Jvm.Cond.laysFinal "BeltRows$Scanner" "BeltRows$Scanner" "delay" "I") ∈ TBL := tbl_2 177 rfl rfl
theorem m_420 : (Jvm.Cond.methodLink "BeltRowsLaw" (103 : Nat) ({ cls := "BeltRowsLaw", name := "item", desc := "(LBeltRows;II[J)I" } : Jvm.MethodName)) ∈ TBL := tbl_2 180 rfl rfl
theorem m_421 : (Jvm.Cond.static ({ cls := "BeltRowsLaw", name := "item", desc := "(LBeltRows;II[J)I" } : Jvm.MethodName)) ∈ TBL := tbl_2 181 rfl rfl
theorem m_422 : (Jvm.Cond.codeWith ({ cls := "BeltRowsLaw", name := "item", desc := "(LBeltRows;II[J)I" } : Jvm.MethodName) method_8_code (5 : Nat) (Option.some Jvm.ClassFile.FieldType.int) [((0 : Nat), (10 : Nat), (13 : Nat), (21 : Nat)), ((0 : Nat), (10 : Nat), (17 : Nat), (13 : Nat)), ((0 : Nat), (10 : Nat), (21 : Nat), (15 : Nat))]) ∈ TBL := tbl_2 182 rfl rfl
theorem m_423 : (Jvm.Cond.methodLink "BeltRowsLaw" (35 : Nat) ({ cls := "BeltRows", name := "item", desc := "(II)I" } : Jvm.MethodName)) ∈ TBL := tbl_2 183 rfl rfl
theorem m_424 : (Jvm.Cond.instanceMethod ({ cls := "BeltRows", name := "item", desc := "(II)I" } : Jvm.MethodName)) ∈ TBL := tbl_2 184 rfl rfl
theorem m_425 : (Jvm.Cond.selects "BeltRows" ({ cls := "BeltRows", name := "item", desc := "(II)I" } : Jvm.MethodName) ({ cls := "BeltRows", name := "item", desc := "(II)I" } : Jvm.MethodName)) ∈ TBL := tbl_2 185 rfl rfl
theorem m_426 : (Jvm.Cond.code ({ cls := "BeltRows", name := "item", desc := "(II)I" } : Jvm.MethodName) prog_1_method_7_code (6 : Nat) (Option.some Jvm.ClassFile.FieldType.int)) ∈ TBL := tbl_2 186 rfl rfl
theorem m_428 : (Jvm.Cond.methodLink "BeltRows" (106 : Nat) ({ cls := "BeltRows", name := "missingToRoom", desc := "(LBeltRows$Belt;)I" } : Jvm.MethodName)) ∈ TBL := tbl_2 188 rfl rfl
theorem m_430 : (Jvm.Cond.instanceMethod ({ cls := "BeltRows", name := "missingToRoom", desc := "(LBeltRows$Belt;)I" } : Jvm.MethodName)) ∈ TBL := tbl_2 190 rfl rfl
theorem m_431 : (Jvm.Cond.code ({ cls := "BeltRows", name := "missingToRoom", desc := "(LBeltRows$Belt;)I" } : Jvm.MethodName) prog_1_method_26_code (2 : Nat) (Option.some Jvm.ClassFile.FieldType.int)) ∈ TBL := tbl_2 191 rfl rfl
theorem m_432 : (Jvm.Cond.methodLink "BeltRows" (172 : Nat) ({ cls := "BeltRows$Item", name := "rear", desc := "()I" } : Jvm.MethodName)) ∈ TBL := tbl_2 192 rfl rfl
theorem m_433 : (Jvm.Cond.instanceMethod ({ cls := "BeltRows$Item", name := "rear", desc := "()I" } : Jvm.MethodName)) ∈ TBL := tbl_2 193 rfl rfl
theorem m_434 : (Jvm.Cond.selects "BeltRows$Item" ({ cls := "BeltRows$Item", name := "rear", desc := "()I" } : Jvm.MethodName) ({ cls := "BeltRows$Item", name := "rear", desc := "()I" } : Jvm.MethodName)) ∈ TBL := tbl_2 194 rfl rfl
theorem m_435 : (Jvm.Cond.code ({ cls := "BeltRows$Item", name := "rear", desc := "()I" } : Jvm.MethodName) prog_4_method_2_code (1 : Nat) (Option.some Jvm.ClassFile.FieldType.int)) ∈ TBL := tbl_2 195 rfl rfl
theorem m_436 : (Jvm.Cond.methodLink "BeltRows" (239 : Nat) ({ cls := "java/lang/Math", name := "max", desc := "(II)I" } : Jvm.MethodName)) ∈ TBL := tbl_2 196 rfl rfl
theorem m_437 : (Jvm.Cond.classLink "BeltRows" (109 : Nat) "BeltRows$Item") ∈ TBL := tbl_2 197 rfl rfl
theorem m_438 : (Jvm.Cond.instantiable "BeltRows$Item" (11 : Nat)) ∈ TBL := tbl_2 198 rfl rfl
theorem m_439 : (Jvm.Cond.methodLink "BeltRows" (111 : Nat) ({ cls := "BeltRows$Item", name := "<init>", desc := "(III)V" } : Jvm.MethodName)) ∈ TBL := tbl_2 199 rfl rfl
theorem m_440 : (Jvm.Cond.instanceMethod ({ cls := "BeltRows$Item", name := "<init>", desc := "(III)V" } : Jvm.MethodName)) ∈ TBL := tbl_2 200 rfl rfl
theorem m_441 : (Jvm.Cond.code ({ cls := "BeltRows$Item", name := "<init>", desc := "(III)V" } : Jvm.MethodName) prog_4_method_1_code (4 : Nat) (Option.none : Option Jvm.ClassFile.FieldType)) ∈ TBL := tbl_2 201 rfl rfl
theorem m_442 : (Jvm.Cond.methodLink "BeltRows$Item" (3 : Nat) ({ cls := "java/lang/Object", name := "<init>", desc := "()V" } : Jvm.MethodName)) ∈ TBL := tbl_2 202 rfl rfl
theorem m_443 : (Jvm.Cond.fieldLink "BeltRows$Item" (9 : Nat) "BeltRows$Item" "number" "I") ∈ TBL := tbl_2 203 rfl rfl
theorem m_444 : (Jvm.Cond.fieldLink "BeltRows" (116 : Nat) "BeltRows$Item" "number" "I") ∈ TBL := tbl_2 204 rfl rfl
theorem m_445 : (Jvm.Cond.fieldLink "BeltRows$Item" (15 : Nat) "BeltRows$Item" "length" "I") ∈ TBL := tbl_2 205 rfl rfl
theorem m_446 : (Jvm.Cond.fieldLink "BeltRows" (198 : Nat) "BeltRows$Item" "length" "I") ∈ TBL := tbl_2 206 rfl rfl
theorem m_447 : (Jvm.Cond.fieldLink "BeltRows$Item" (18 : Nat) "BeltRows$Item" "putAt" "I") ∈ TBL := tbl_2 207 rfl rfl
theorem m_448 : (Jvm.Cond.fieldLink "BeltRows" (202 : Nat) "BeltRows$Item" "putAt" "I") ∈ TBL := tbl_2 208 rfl rfl
theorem m_449 : (Jvm.Cond.fieldLink "BeltRows$Item" (21 : Nat) "BeltRows$Item" "belt" "LBeltRows$Belt;") ∈ TBL := tbl_2 209 rfl rfl
theorem m_450 : (Jvm.Cond.fieldLink "BeltRows" (188 : Nat) "BeltRows$Item" "belt" "LBeltRows$Belt;") ∈ TBL := tbl_2 210 rfl rfl
theorem m_451 : (Jvm.Cond.fieldLink "BeltRows$Item" (25 : Nat) "BeltRows$Item" "ahead" "LBeltRows$Item;") ∈ TBL := tbl_2 211 rfl rfl
theorem m_452 : (Jvm.Cond.fieldLink "BeltRows$Belt" (74 : Nat) "BeltRows$Item" "ahead" "LBeltRows$Item;") ∈ TBL := tbl_2 212 rfl rfl
theorem m_453 : (Jvm.Cond.fieldLink "BeltRows$Item" (29 : Nat) "BeltRows$Item" "behind" "LBeltRows$Item;") ∈ TBL := tbl_2 213 rfl rfl
theorem m_454 : (Jvm.Cond.fieldLink "BeltRows$Belt" (71 : Nat) "BeltRows$Item" "behind" "LBeltRows$Item;") ∈ TBL := tbl_2 214 rfl rfl
theorem m_455 : (Jvm.Cond.fieldLink "BeltRows" (168 : Nat) "BeltRows$Item" "behind" "LBeltRows$Item;") ∈ TBL := tbl_2 215 rfl rfl
theorem m_456 : (Jvm.Cond.fieldLink "BeltRows$Item" (32 : Nat) "BeltRows$Item" "state" "I") ∈ TBL := tbl_2 216 rfl rfl
theorem m_457 : (Jvm.Cond.fieldLink "BeltRows" (194 : Nat) "BeltRows$Item" "state" "I") ∈ TBL := tbl_2 217 rfl rfl
theorem m_458 : (Jvm.Cond.fieldLink "BeltRows$Item" (35 : Nat) "BeltRows$Item" "place" "I") ∈ TBL := tbl_2 218 rfl rfl
theorem m_459 : (Jvm.Cond.fieldLink "BeltRows$Belt" (56 : Nat) "BeltRows$Item" "place" "I") ∈ TBL := tbl_2 219 rfl rfl
theorem m_460 : (Jvm.Cond.fieldLink "BeltRows" (160 : Nat) "BeltRows$Item" "place" "I") ∈ TBL := tbl_2 220 rfl rfl
theorem m_461 : (Jvm.Cond.fieldLink "BeltRows$Item" (38 : Nat) "BeltRows$Item" "expected" "I") ∈ TBL := tbl_2 221 rfl rfl
theorem m_462 : (Jvm.Cond.fieldLink "BeltRows" (199 : Nat) "BeltRows$Item" "expected" "I") ∈ TBL := tbl_2 222 rfl rfl
theorem m_463 : (Jvm.Cond.fieldLink "BeltRows$Item" (41 : Nat) "BeltRows$Item" "way" "I") ∈ TBL := tbl_2 223 rfl rfl
theorem m_464 : (Jvm.Cond.fieldLink "BeltRows$Belt" (43 : Nat) "BeltRows$Item" "way" "I") ∈ TBL := tbl_2 224 rfl rfl
theorem m_465 : (Jvm.Cond.fieldLink "BeltRows" (129 : Nat) "BeltRows$Item" "way" "I") ∈ TBL := tbl_2 225 rfl rfl
theorem m_466 : (Jvm.Cond.fieldLink "BeltRows$Item" (44 : Nat) "BeltRows$Item" "wasTold" "Z") ∈ TBL := tbl_2 226 rfl rfl
theorem m_467 : (Jvm.Cond.fieldLink "BeltRows" (126 : Nat) "BeltRows$Item" "wasTold" "Z") ∈ TBL := tbl_2 227 rfl rfl
theorem m_468 : (Jvm.Cond.laysFinal "BeltRows$Item" "BeltRows$Item" "number" "I") ∈ TBL := tbl_2 228 rfl rfl
theorem m_470 : (Jvm.Cond.laysFinal "BeltRows$Item" "BeltRows$Item" "length" "I") ∈ TBL := tbl_2 230 rfl rfl
theorem m_472 : (Jvm.Cond.laysFinal "BeltRows$Item" "BeltRows$Item" "putAt" "I") ∈ TBL := tbl_2 232 rfl rfl
theorem m_474 : (Jvm.Cond.lays "BeltRows$Item" "BeltRows$Item" "belt" "LBeltRows$Belt;") ∈ TBL := tbl_2 234 rfl rfl
theorem m_476 : (Jvm.Cond.lays "BeltRows$Item" "BeltRows$Item" "ahead" "LBeltRows$Item;") ∈ TBL := tbl_2 236 rfl rfl
theorem m_478 : (Jvm.Cond.lays "BeltRows$Item" "BeltRows$Item" "behind" "LBeltRows$Item;") ∈ TBL := tbl_2 238 rfl rfl
theorem m_480 : (Jvm.Cond.lays "BeltRows$Item" "BeltRows$Item" "state" "I") ∈ TBL := tbl_3 0 rfl rfl
theorem m_482 : (Jvm.Cond.lays "BeltRows$Item" "BeltRows$Item" "place" "I") ∈ TBL := tbl_3 2 rfl rfl
theorem m_484 : (Jvm.Cond.lays "BeltRows$Item" "BeltRows$Item" "expected" "I") ∈ TBL := tbl_3 4 rfl rfl
theorem m_486 : (Jvm.Cond.lays "BeltRows$Item" "BeltRows$Item" "way" "I") ∈ TBL := tbl_3 6 rfl rfl
theorem m_488 : (Jvm.Cond.lays "BeltRows$Item" "BeltRows$Item" "wasTold" "Z") ∈ TBL := tbl_3 8 rfl rfl
theorem m_491 : (Jvm.Cond.methodLink "BeltRows" (112 : Nat) ({ cls := "BeltRows$Belt", name := "takeOn", desc := "(LBeltRows$Item;)V" } : Jvm.MethodName)) ∈ TBL := tbl_3 11 rfl rfl
theorem m_492 : (Jvm.Cond.instanceMethod ({ cls := "BeltRows$Belt", name := "takeOn", desc := "(LBeltRows$Item;)V" } : Jvm.MethodName)) ∈ TBL := tbl_3 12 rfl rfl
theorem m_493 : (Jvm.Cond.selects "BeltRows$Belt" ({ cls := "BeltRows$Belt", name := "takeOn", desc := "(LBeltRows$Item;)V" } : Jvm.MethodName) ({ cls := "BeltRows$Belt", name := "takeOn", desc := "(LBeltRows$Item;)V" } : Jvm.MethodName)) ∈ TBL := tbl_3 13 rfl rfl
theorem m_494 : (Jvm.Cond.code ({ cls := "BeltRows$Belt", name := "takeOn", desc := "(LBeltRows$Item;)V" } : Jvm.MethodName) prog_2_method_6_code (2 : Nat) (Option.none : Option Jvm.ClassFile.FieldType)) ∈ TBL := tbl_3 14 rfl rfl
theorem m_495 : (Jvm.Cond.methodLink "BeltRows$Belt" (67 : Nat) ({ cls := "BeltRows$Item", name := "startOn", desc := "(LBeltRows$Belt;LBeltRows$Item;)V" } : Jvm.MethodName)) ∈ TBL := tbl_3 15 rfl rfl
theorem m_496 : (Jvm.Cond.instanceMethod ({ cls := "BeltRows$Item", name := "startOn", desc := "(LBeltRows$Belt;LBeltRows$Item;)V" } : Jvm.MethodName)) ∈ TBL := tbl_3 16 rfl rfl
theorem m_497 : (Jvm.Cond.selects "BeltRows$Item" ({ cls := "BeltRows$Item", name := "startOn", desc := "(LBeltRows$Belt;LBeltRows$Item;)V" } : Jvm.MethodName) ({ cls := "BeltRows$Item", name := "startOn", desc := "(LBeltRows$Belt;LBeltRows$Item;)V" } : Jvm.MethodName)) ∈ TBL := tbl_3 17 rfl rfl
theorem m_498 : (Jvm.Cond.code ({ cls := "BeltRows$Item", name := "startOn", desc := "(LBeltRows$Belt;LBeltRows$Item;)V" } : Jvm.MethodName) prog_4_method_3_code (3 : Nat) (Option.none : Option Jvm.ClassFile.FieldType)) ∈ TBL := tbl_3 18 rfl rfl
theorem m_499 : (Jvm.Cond.methodLink "BeltRows$Item" (48 : Nat) ({ cls := "BeltRows$Item", name := "forgetWay", desc := "()V" } : Jvm.MethodName)) ∈ TBL := tbl_3 19 rfl rfl
theorem m_501 : (Jvm.Cond.instanceMethod ({ cls := "BeltRows$Item", name := "forgetWay", desc := "()V" } : Jvm.MethodName)) ∈ TBL := tbl_3 21 rfl rfl
theorem m_502 : (Jvm.Cond.code ({ cls := "BeltRows$Item", name := "forgetWay", desc := "()V" } : Jvm.MethodName) prog_4_method_6_code (1 : Nat) (Option.none : Option Jvm.ClassFile.FieldType)) ∈ TBL := tbl_3 22 rfl rfl
theorem m_503 : (Jvm.Cond.methodLink "BeltRowsLaw" (106 : Nat) ({ cls := "BeltRowsLaw", name := "divert", desc := "(LBeltRows;II[J)I" } : Jvm.MethodName)) ∈ TBL := tbl_3 23 rfl rfl
theorem m_504 : (Jvm.Cond.static ({ cls := "BeltRowsLaw", name := "divert", desc := "(LBeltRows;II[J)I" } : Jvm.MethodName)) ∈ TBL := tbl_3 24 rfl rfl
theorem m_505 : (Jvm.Cond.codeWith ({ cls := "BeltRowsLaw", name := "divert", desc := "(LBeltRows;II[J)I" } : Jvm.MethodName) method_9_code (5 : Nat) (Option.some Jvm.ClassFile.FieldType.int) [((0 : Nat), (10 : Nat), (13 : Nat), (21 : Nat)), ((0 : Nat), (10 : Nat), (17 : Nat), (13 : Nat)), ((0 : Nat), (10 : Nat), (21 : Nat), (41 : Nat))]) ∈ TBL := tbl_3 25 rfl rfl
theorem m_506 : (Jvm.Cond.classLink "BeltRowsLaw" (41 : Nat) "java/lang/IllegalStateException") ∈ TBL := tbl_3 26 rfl rfl
theorem m_507 : (Jvm.Cond.methodLink "BeltRowsLaw" (38 : Nat) ({ cls := "BeltRows", name := "divert", desc := "(II)I" } : Jvm.MethodName)) ∈ TBL := tbl_3 27 rfl rfl
theorem m_508 : (Jvm.Cond.instanceMethod ({ cls := "BeltRows", name := "divert", desc := "(II)I" } : Jvm.MethodName)) ∈ TBL := tbl_3 28 rfl rfl
theorem m_509 : (Jvm.Cond.selects "BeltRows" ({ cls := "BeltRows", name := "divert", desc := "(II)I" } : Jvm.MethodName) ({ cls := "BeltRows", name := "divert", desc := "(II)I" } : Jvm.MethodName)) ∈ TBL := tbl_3 29 rfl rfl
theorem m_510 : (Jvm.Cond.code ({ cls := "BeltRows", name := "divert", desc := "(II)I" } : Jvm.MethodName) prog_1_method_8_code (5 : Nat) (Option.some Jvm.ClassFile.FieldType.int)) ∈ TBL := tbl_3 30 rfl rfl
theorem m_511 : (Jvm.Cond.methodLink "BeltRows" (119 : Nat) ({ cls := "BeltRows", name := "findItem", desc := "(I)LBeltRows$Item;" } : Jvm.MethodName)) ∈ TBL := tbl_3 31 rfl rfl
theorem m_513 : (Jvm.Cond.instanceMethod ({ cls := "BeltRows", name := "findItem", desc := "(I)LBeltRows$Item;" } : Jvm.MethodName)) ∈ TBL := tbl_3 33 rfl rfl
theorem m_514 : (Jvm.Cond.code ({ cls := "BeltRows", name := "findItem", desc := "(I)LBeltRows$Item;" } : Jvm.MethodName) prog_1_method_23_code (2 : Nat) (Option.some (Jvm.ClassFile.FieldType.object "BeltRows$Item"))) ∈ TBL := tbl_3 34 rfl rfl
theorem m_516 : (Jvm.Cond.methodLink "BeltRows" (123 : Nat) ({ cls := "BeltRows", name := "checkOnBelt", desc := "(LBeltRows$Item;)V" } : Jvm.MethodName)) ∈ TBL := tbl_3 36 rfl rfl
theorem m_517 : (Jvm.Cond.static ({ cls := "BeltRows", name := "checkOnBelt", desc := "(LBeltRows$Item;)V" } : Jvm.MethodName)) ∈ TBL := tbl_3 37 rfl rfl
theorem m_518 : (Jvm.Cond.code ({ cls := "BeltRows", name := "checkOnBelt", desc := "(LBeltRows$Item;)V" } : Jvm.MethodName) prog_1_method_21_code (1 : Nat) (Option.none : Option Jvm.ClassFile.FieldType)) ∈ TBL := tbl_3 38 rfl rfl
theorem m_519 : (Jvm.Cond.classLink "BeltRows" (163 : Nat) "java/lang/IllegalStateException") ∈ TBL := tbl_3 39 rfl rfl
theorem m_520 : (Jvm.Cond.instantiable "java/lang/IllegalStateException" (6 : Nat)) ∈ TBL := tbl_3 40 rfl rfl
theorem m_522 : (Jvm.Cond.selects "java/lang/IllegalStateException" ({ cls := "java/lang/Throwable", name := "fillInStackTrace", desc := "(I)Ljava/lang/Throwable;" } : Jvm.MethodName) ({ cls := "java/lang/Throwable", name := "fillInStackTrace", desc := "(I)Ljava/lang/Throwable;" } : Jvm.MethodName)) ∈ TBL := tbl_3 42 rfl rfl
theorem m_523 : (Jvm.Cond.lays "java/lang/IllegalStateException" "java/lang/Throwable" "cause" "Ljava/lang/Throwable;") ∈ TBL := tbl_3 43 rfl rfl
theorem m_524 : (Jvm.Cond.lays "java/lang/IllegalStateException" "java/lang/Throwable" "stackTrace" "[Ljava/lang/StackTraceElement;") ∈ TBL := tbl_3 44 rfl rfl
theorem m_525 : (Jvm.Cond.lays "java/lang/IllegalStateException" "java/lang/Throwable" "suppressedExceptions" "Ljava/util/List;") ∈ TBL := tbl_3 45 rfl rfl
theorem m_526 : (Jvm.Cond.lays "java/lang/IllegalStateException" "java/lang/Throwable" "detailMessage" "Ljava/lang/String;") ∈ TBL := tbl_3 46 rfl rfl
theorem m_527 : (Jvm.Cond.lays "java/lang/IllegalStateException" "java/lang/Throwable" "backtrace" "Ljava/lang/Object;") ∈ TBL := tbl_3 47 rfl rfl
theorem m_529 : (Jvm.Cond.methodLink "BeltRows" (167 : Nat) ({ cls := "java/lang/IllegalStateException", name := "<init>", desc := "(Ljava/lang/String;)V" } : Jvm.MethodName)) ∈ TBL := tbl_3 49 rfl rfl
theorem m_530 : (Jvm.Cond.instanceMethod ({ cls := "java/lang/IllegalStateException", name := "<init>", desc := "(Ljava/lang/String;)V" } : Jvm.MethodName)) ∈ TBL := tbl_3 50 rfl rfl
theorem m_531 : (Jvm.Cond.code ({ cls := "java/lang/IllegalStateException", name := "<init>", desc := "(Ljava/lang/String;)V" } : Jvm.MethodName) prog_14_method_2_code (2 : Nat) (Option.none : Option Jvm.ClassFile.FieldType)) ∈ TBL := tbl_3 51 rfl rfl
theorem m_532 : (Jvm.Cond.methodLink "java/lang/IllegalStateException" (7 : Nat) ({ cls := "java/lang/RuntimeException", name := "<init>", desc := "(Ljava/lang/String;)V" } : Jvm.MethodName)) ∈ TBL := tbl_3 52 rfl rfl
theorem m_533 : (Jvm.Cond.lays "java/lang/IllegalStateException" "java/lang/Throwable" "depth" "I") ∈ TBL := tbl_3 53 rfl rfl
theorem m_535 : (Jvm.Cond.methodLink "BeltRowsLaw" (109 : Nat) ({ cls := "BeltRowsLaw", name := "step", desc := "(LBeltRows;I[J)I" } : Jvm.MethodName)) ∈ TBL := tbl_3 55 rfl rfl
theorem m_536 : (Jvm.Cond.static ({ cls := "BeltRowsLaw", name := "step", desc := "(LBeltRows;I[J)I" } : Jvm.MethodName)) ∈ TBL := tbl_3 56 rfl rfl
theorem m_537 : (Jvm.Cond.codeWith ({ cls := "BeltRowsLaw", name := "step", desc := "(LBeltRows;I[J)I" } : Jvm.MethodName) method_10_code (4 : Nat) (Option.some Jvm.ClassFile.FieldType.int) [((0 : Nat), (9 : Nat), (12 : Nat), (13 : Nat))]) ∈ TBL := tbl_3 57 rfl rfl
theorem m_538 : (Jvm.Cond.methodLink "BeltRowsLaw" (43 : Nat) ({ cls := "BeltRows", name := "step", desc := "(I)I" } : Jvm.MethodName)) ∈ TBL := tbl_3 58 rfl rfl
theorem m_539 : (Jvm.Cond.instanceMethod ({ cls := "BeltRows", name := "step", desc := "(I)I" } : Jvm.MethodName)) ∈ TBL := tbl_3 59 rfl rfl
theorem m_540 : (Jvm.Cond.selects "BeltRows" ({ cls := "BeltRows", name := "step", desc := "(I)I" } : Jvm.MethodName) ({ cls := "BeltRows", name := "step", desc := "(I)I" } : Jvm.MethodName)) ∈ TBL := tbl_3 60 rfl rfl
theorem m_541 : (Jvm.Cond.code ({ cls := "BeltRows", name := "step", desc := "(I)I" } : Jvm.MethodName) prog_1_method_9_code (4 : Nat) (Option.some Jvm.ClassFile.FieldType.int)) ∈ TBL := tbl_3 61 rfl rfl
theorem m_542 : (Jvm.Cond.methodLink "BeltRows" (132 : Nat) ({ cls := "BeltRows", name := "passSecond", desc := "()V" } : Jvm.MethodName)) ∈ TBL := tbl_3 62 rfl rfl
theorem m_544 : (Jvm.Cond.instanceMethod ({ cls := "BeltRows", name := "passSecond", desc := "()V" } : Jvm.MethodName)) ∈ TBL := tbl_3 64 rfl rfl
theorem m_545 : (Jvm.Cond.code ({ cls := "BeltRows", name := "passSecond", desc := "()V" } : Jvm.MethodName) prog_1_method_27_code (3 : Nat) (Option.none : Option Jvm.ClassFile.FieldType)) ∈ TBL := tbl_3 65 rfl rfl
theorem m_546 : (Jvm.Cond.methodLink "BeltRows" (245 : Nat) ({ cls := "BeltRows", name := "tellReads", desc := "()V" } : Jvm.MethodName)) ∈ TBL := tbl_3 66 rfl rfl
theorem m_548 : (Jvm.Cond.instanceMethod ({ cls := "BeltRows", name := "tellReads", desc := "()V" } : Jvm.MethodName)) ∈ TBL := tbl_3 68 rfl rfl
theorem m_549 : (Jvm.Cond.code ({ cls := "BeltRows", name := "tellReads", desc := "()V" } : Jvm.MethodName) prog_1_method_28_code (5 : Nat) (Option.none : Option Jvm.ClassFile.FieldType)) ∈ TBL := tbl_3 69 rfl rfl
theorem m_550 : (Jvm.Cond.classLink "BeltRows" (144 : Nat) "BeltRows$Edge") ∈ TBL := tbl_3 70 rfl rfl
theorem m_551 : (Jvm.Cond.methodLink "BeltRows" (258 : Nat) ({ cls := "BeltRows", name := "tell", desc := "(LBeltRows$Edge;)V" } : Jvm.MethodName)) ∈ TBL := tbl_3 71 rfl rfl
theorem m_553 : (Jvm.Cond.instanceMethod ({ cls := "BeltRows", name := "tell", desc := "(LBeltRows$Edge;)V" } : Jvm.MethodName)) ∈ TBL := tbl_3 73 rfl rfl
theorem m_554 : (Jvm.Cond.code ({ cls := "BeltRows", name := "tell", desc := "(LBeltRows$Edge;)V" } : Jvm.MethodName) prog_1_method_29_code (2 : Nat) (Option.none : Option Jvm.ClassFile.FieldType)) ∈ TBL := tbl_3 74 rfl rfl
theorem m_555 : (Jvm.Cond.methodLink "BeltRows" (262 : Nat) ({ cls := "java/util/ArrayList", name := "set", desc := "(ILjava/lang/Object;)Ljava/lang/Object;" } : Jvm.MethodName)) ∈ TBL := tbl_3 75 rfl rfl
theorem m_556 : (Jvm.Cond.instanceMethod ({ cls := "java/util/ArrayList", name := "set", desc := "(ILjava/lang/Object;)Ljava/lang/Object;" } : Jvm.MethodName)) ∈ TBL := tbl_3 76 rfl rfl
theorem m_557 : (Jvm.Cond.selects "java/util/ArrayList" ({ cls := "java/util/ArrayList", name := "set", desc := "(ILjava/lang/Object;)Ljava/lang/Object;" } : Jvm.MethodName) ({ cls := "java/util/ArrayList", name := "set", desc := "(ILjava/lang/Object;)Ljava/lang/Object;" } : Jvm.MethodName)) ∈ TBL := tbl_3 77 rfl rfl
theorem m_558 : (Jvm.Cond.code ({ cls := "java/util/ArrayList", name := "set", desc := "(ILjava/lang/Object;)Ljava/lang/Object;" } : Jvm.MethodName) prog_24_method_23_code (4 : Nat) (Option.some (Jvm.ClassFile.FieldType.object "java/lang/Object"))) ∈ TBL := tbl_3 78 rfl rfl
theorem m_559 : (Jvm.Cond.methodLink "BeltRows" (266 : Nat) ({ cls := "java/util/ArrayList", name := "remove", desc := "(I)Ljava/lang/Object;" } : Jvm.MethodName)) ∈ TBL := tbl_3 79 rfl rfl
theorem m_560 : (Jvm.Cond.instanceMethod ({ cls := "java/util/ArrayList", name := "remove", desc := "(I)Ljava/lang/Object;" } : Jvm.MethodName)) ∈ TBL := tbl_3 80 rfl rfl
theorem m_561 : (Jvm.Cond.selects "java/util/ArrayList" ({ cls := "java/util/ArrayList", name := "remove", desc := "(I)Ljava/lang/Object;" } : Jvm.MethodName) ({ cls := "java/util/ArrayList", name := "remove", desc := "(I)Ljava/lang/Object;" } : Jvm.MethodName)) ∈ TBL := tbl_3 81 rfl rfl
theorem m_562 : (Jvm.Cond.code ({ cls := "java/util/ArrayList", name := "remove", desc := "(I)Ljava/lang/Object;" } : Jvm.MethodName) prog_24_method_29_code (4 : Nat) (Option.some (Jvm.ClassFile.FieldType.object "java/lang/Object"))) ∈ TBL := tbl_3 82 rfl rfl
theorem m_563 : (Jvm.Cond.methodLink "java/util/ArrayList" (144 : Nat) ({ cls := "java/util/ArrayList", name := "fastRemove", desc := "([Ljava/lang/Object;I)V" } : Jvm.MethodName)) ∈ TBL := tbl_3 83 rfl rfl
theorem m_565 : (Jvm.Cond.instanceMethod ({ cls := "java/util/ArrayList", name := "fastRemove", desc := "([Ljava/lang/Object;I)V" } : Jvm.MethodName)) ∈ TBL := tbl_3 85 rfl rfl
theorem m_566 : (Jvm.Cond.code ({ cls := "java/util/ArrayList", name := "fastRemove", desc := "([Ljava/lang/Object;I)V" } : Jvm.MethodName) prog_24_method_39_code (4 : Nat) (Option.none : Option Jvm.ClassFile.FieldType)) ∈ TBL := tbl_3 86 rfl rfl
theorem m_567 : (Jvm.Cond.methodLink "java/util/ArrayList" (112 : Nat) ({ cls := "java/lang/System", name := "arraycopy", desc := "(Ljava/lang/Object;ILjava/lang/Object;II)V" } : Jvm.MethodName)) ∈ TBL := tbl_3 87 rfl rfl
theorem m_568 : (Jvm.Cond.methodLink "BeltRows" (248 : Nat) ({ cls := "BeltRows", name := "letOut", desc := "(LBeltRows$Belt;)V" } : Jvm.MethodName)) ∈ TBL := tbl_3 88 rfl rfl
theorem m_570 : (Jvm.Cond.instanceMethod ({ cls := "BeltRows", name := "letOut", desc := "(LBeltRows$Belt;)V" } : Jvm.MethodName)) ∈ TBL := tbl_3 90 rfl rfl
theorem m_571 : (Jvm.Cond.code ({ cls := "BeltRows", name := "letOut", desc := "(LBeltRows$Belt;)V" } : Jvm.MethodName) prog_1_method_30_code (3 : Nat) (Option.none : Option Jvm.ClassFile.FieldType)) ∈ TBL := tbl_3 91 rfl rfl
theorem m_572 : (Jvm.Cond.methodLink "BeltRows" (269 : Nat) ({ cls := "BeltRows$Belt", name := "itemAtEnd", desc := "()LBeltRows$Item;" } : Jvm.MethodName)) ∈ TBL := tbl_3 92 rfl rfl
theorem m_573 : (Jvm.Cond.instanceMethod ({ cls := "BeltRows$Belt", name := "itemAtEnd", desc := "()LBeltRows$Item;" } : Jvm.MethodName)) ∈ TBL := tbl_3 93 rfl rfl
theorem m_574 : (Jvm.Cond.selects "BeltRows$Belt" ({ cls := "BeltRows$Belt", name := "itemAtEnd", desc := "()LBeltRows$Item;" } : Jvm.MethodName) ({ cls := "BeltRows$Belt", name := "itemAtEnd", desc := "()LBeltRows$Item;" } : Jvm.MethodName)) ∈ TBL := tbl_3 94 rfl rfl
theorem m_575 : (Jvm.Cond.code ({ cls := "BeltRows$Belt", name := "itemAtEnd", desc := "()LBeltRows$Item;" } : Jvm.MethodName) prog_2_method_4_code (1 : Nat) (Option.some (Jvm.ClassFile.FieldType.object "BeltRows$Item"))) ∈ TBL := tbl_3 95 rfl rfl
theorem m_576 : (Jvm.Cond.methodLink "BeltRows" (273 : Nat) ({ cls := "BeltRows$Belt", name := "wayOf", desc := "(LBeltRows$Item;)LBeltRows$Way;" } : Jvm.MethodName)) ∈ TBL := tbl_3 96 rfl rfl
theorem m_577 : (Jvm.Cond.instanceMethod ({ cls := "BeltRows$Belt", name := "wayOf", desc := "(LBeltRows$Item;)LBeltRows$Way;" } : Jvm.MethodName)) ∈ TBL := tbl_3 97 rfl rfl
theorem m_578 : (Jvm.Cond.selects "BeltRows$Belt" ({ cls := "BeltRows$Belt", name := "wayOf", desc := "(LBeltRows$Item;)LBeltRows$Way;" } : Jvm.MethodName) ({ cls := "BeltRows$Belt", name := "wayOf", desc := "(LBeltRows$Item;)LBeltRows$Way;" } : Jvm.MethodName)) ∈ TBL := tbl_3 98 rfl rfl
theorem m_579 : (Jvm.Cond.code ({ cls := "BeltRows$Belt", name := "wayOf", desc := "(LBeltRows$Item;)LBeltRows$Way;" } : Jvm.MethodName) prog_2_method_3_code (3 : Nat) (Option.some (Jvm.ClassFile.FieldType.object "BeltRows$Way"))) ∈ TBL := tbl_3 99 rfl rfl
theorem m_580 : (Jvm.Cond.methodLink "BeltRows$Belt" (48 : Nat) ({ cls := "BeltRows$Belt", name := "wayNumbered", desc := "(I)LBeltRows$Way;" } : Jvm.MethodName)) ∈ TBL := tbl_3 100 rfl rfl
theorem m_581 : (Jvm.Cond.methodLink "BeltRows" (177 : Nat) ({ cls := "BeltRows$Item", name := "leave", desc := "(I)V" } : Jvm.MethodName)) ∈ TBL := tbl_3 101 rfl rfl
theorem m_582 : (Jvm.Cond.instanceMethod ({ cls := "BeltRows$Item", name := "leave", desc := "(I)V" } : Jvm.MethodName)) ∈ TBL := tbl_3 102 rfl rfl
theorem m_583 : (Jvm.Cond.selects "BeltRows$Item" ({ cls := "BeltRows$Item", name := "leave", desc := "(I)V" } : Jvm.MethodName) ({ cls := "BeltRows$Item", name := "leave", desc := "(I)V" } : Jvm.MethodName)) ∈ TBL := tbl_3 103 rfl rfl
theorem m_584 : (Jvm.Cond.code ({ cls := "BeltRows$Item", name := "leave", desc := "(I)V" } : Jvm.MethodName) prog_4_method_4_code (2 : Nat) (Option.none : Option Jvm.ClassFile.FieldType)) ∈ TBL := tbl_3 104 rfl rfl
theorem m_585 : (Jvm.Cond.methodLink "BeltRows$Item" (51 : Nat) ({ cls := "BeltRows$Belt", name := "letGo", desc := "(LBeltRows$Item;)V" } : Jvm.MethodName)) ∈ TBL := tbl_3 105 rfl rfl
theorem m_586 : (Jvm.Cond.instanceMethod ({ cls := "BeltRows$Belt", name := "letGo", desc := "(LBeltRows$Item;)V" } : Jvm.MethodName)) ∈ TBL := tbl_3 106 rfl rfl
theorem m_587 : (Jvm.Cond.selects "BeltRows$Belt" ({ cls := "BeltRows$Belt", name := "letGo", desc := "(LBeltRows$Item;)V" } : Jvm.MethodName) ({ cls := "BeltRows$Belt", name := "letGo", desc := "(LBeltRows$Item;)V" } : Jvm.MethodName)) ∈ TBL := tbl_3 107 rfl rfl
theorem m_588 : (Jvm.Cond.code ({ cls := "BeltRows$Belt", name := "letGo", desc := "(LBeltRows$Item;)V" } : Jvm.MethodName) prog_2_method_7_code (2 : Nat) (Option.none : Option Jvm.ClassFile.FieldType)) ∈ TBL := tbl_3 108 rfl rfl
theorem m_589 : (Jvm.Cond.instantiable "BeltRows$Edge" (4 : Nat)) ∈ TBL := tbl_3 109 rfl rfl
theorem m_590 : (Jvm.Cond.methodLink "BeltRows" (277 : Nat) ({ cls := "BeltRows$Edge", name := "<init>", desc := "(IIII)V" } : Jvm.MethodName)) ∈ TBL := tbl_3 110 rfl rfl
theorem m_591 : (Jvm.Cond.instanceMethod ({ cls := "BeltRows$Edge", name := "<init>", desc := "(IIII)V" } : Jvm.MethodName)) ∈ TBL := tbl_3 111 rfl rfl
theorem m_592 : (Jvm.Cond.code ({ cls := "BeltRows$Edge", name := "<init>", desc := "(IIII)V" } : Jvm.MethodName) prog_3_method_1_code (5 : Nat) (Option.none : Option Jvm.ClassFile.FieldType)) ∈ TBL := tbl_3 112 rfl rfl
theorem m_593 : (Jvm.Cond.methodLink "BeltRows$Edge" (1 : Nat) ({ cls := "java/lang/Object", name := "<init>", desc := "()V" } : Jvm.MethodName)) ∈ TBL := tbl_3 113 rfl rfl
theorem m_594 : (Jvm.Cond.fieldLink "BeltRows$Edge" (7 : Nat) "BeltRows$Edge" "second" "I") ∈ TBL := tbl_3 114 rfl rfl
theorem m_595 : (Jvm.Cond.fieldLink "BeltRows" (146 : Nat) "BeltRows$Edge" "second" "I") ∈ TBL := tbl_3 115 rfl rfl
theorem m_596 : (Jvm.Cond.fieldLink "BeltRows$Edge" (13 : Nat) "BeltRows$Edge" "kind" "I") ∈ TBL := tbl_3 116 rfl rfl
theorem m_597 : (Jvm.Cond.fieldLink "BeltRows" (149 : Nat) "BeltRows$Edge" "kind" "I") ∈ TBL := tbl_3 117 rfl rfl
theorem m_598 : (Jvm.Cond.fieldLink "BeltRows$Edge" (16 : Nat) "BeltRows$Edge" "item" "I") ∈ TBL := tbl_3 118 rfl rfl
theorem m_599 : (Jvm.Cond.fieldLink "BeltRows" (152 : Nat) "BeltRows$Edge" "item" "I") ∈ TBL := tbl_3 119 rfl rfl
theorem m_600 : (Jvm.Cond.fieldLink "BeltRows$Edge" (19 : Nat) "BeltRows$Edge" "where" "I") ∈ TBL := tbl_3 120 rfl rfl
theorem m_601 : (Jvm.Cond.fieldLink "BeltRows" (155 : Nat) "BeltRows$Edge" "where" "I") ∈ TBL := tbl_3 121 rfl rfl
theorem m_602 : (Jvm.Cond.laysFinal "BeltRows$Edge" "BeltRows$Edge" "second" "I") ∈ TBL := tbl_3 122 rfl rfl
theorem m_604 : (Jvm.Cond.laysFinal "BeltRows$Edge" "BeltRows$Edge" "kind" "I") ∈ TBL := tbl_3 124 rfl rfl
theorem m_606 : (Jvm.Cond.laysFinal "BeltRows$Edge" "BeltRows$Edge" "item" "I") ∈ TBL := tbl_3 126 rfl rfl
theorem m_608 : (Jvm.Cond.laysFinal "BeltRows$Edge" "BeltRows$Edge" "where" "I") ∈ TBL := tbl_3 128 rfl rfl
theorem m_611 : (Jvm.Cond.methodLink "BeltRows" (252 : Nat) ({ cls := "BeltRows", name := "passOnTo", desc := "(LBeltRows$Belt;)V" } : Jvm.MethodName)) ∈ TBL := tbl_3 131 rfl rfl
theorem m_613 : (Jvm.Cond.instanceMethod ({ cls := "BeltRows", name := "passOnTo", desc := "(LBeltRows$Belt;)V" } : Jvm.MethodName)) ∈ TBL := tbl_3 133 rfl rfl
theorem m_614 : (Jvm.Cond.code ({ cls := "BeltRows", name := "passOnTo", desc := "(LBeltRows$Belt;)V" } : Jvm.MethodName) prog_1_method_31_code (5 : Nat) (Option.none : Option Jvm.ClassFile.FieldType)) ∈ TBL := tbl_3 134 rfl rfl
theorem m_615 : (Jvm.Cond.methodLink "BeltRows" (280 : Nat) ({ cls := "BeltRows", name := "giverTo", desc := "(LBeltRows$Belt;)LBeltRows$Belt;" } : Jvm.MethodName)) ∈ TBL := tbl_3 135 rfl rfl
theorem m_617 : (Jvm.Cond.instanceMethod ({ cls := "BeltRows", name := "giverTo", desc := "(LBeltRows$Belt;)LBeltRows$Belt;" } : Jvm.MethodName)) ∈ TBL := tbl_3 137 rfl rfl
theorem m_618 : (Jvm.Cond.code ({ cls := "BeltRows", name := "giverTo", desc := "(LBeltRows$Belt;)LBeltRows$Belt;" } : Jvm.MethodName) prog_1_method_32_code (7 : Nat) (Option.some (Jvm.ClassFile.FieldType.object "BeltRows$Belt"))) ∈ TBL := tbl_3 138 rfl rfl
theorem m_619 : (Jvm.Cond.methodLink "BeltRows" (284 : Nat) ({ cls := "BeltRows$Belt", name := "wayInUse", desc := "()LBeltRows$Way;" } : Jvm.MethodName)) ∈ TBL := tbl_3 139 rfl rfl
theorem m_620 : (Jvm.Cond.instanceMethod ({ cls := "BeltRows$Belt", name := "wayInUse", desc := "()LBeltRows$Way;" } : Jvm.MethodName)) ∈ TBL := tbl_3 140 rfl rfl
theorem m_621 : (Jvm.Cond.selects "BeltRows$Belt" ({ cls := "BeltRows$Belt", name := "wayInUse", desc := "()LBeltRows$Way;" } : Jvm.MethodName) ({ cls := "BeltRows$Belt", name := "wayInUse", desc := "()LBeltRows$Way;" } : Jvm.MethodName)) ∈ TBL := tbl_3 141 rfl rfl
theorem m_622 : (Jvm.Cond.code ({ cls := "BeltRows$Belt", name := "wayInUse", desc := "()LBeltRows$Way;" } : Jvm.MethodName) prog_2_method_5_code (2 : Nat) (Option.some (Jvm.ClassFile.FieldType.object "BeltRows$Way"))) ∈ TBL := tbl_3 142 rfl rfl
theorem m_623 : (Jvm.Cond.methodLink "BeltRows$Belt" (59 : Nat) ({ cls := "BeltRows$Belt", name := "itemAtEnd", desc := "()LBeltRows$Item;" } : Jvm.MethodName)) ∈ TBL := tbl_3 143 rfl rfl
theorem m_624 : (Jvm.Cond.methodLink "BeltRows$Belt" (63 : Nat) ({ cls := "BeltRows$Belt", name := "wayOf", desc := "(LBeltRows$Item;)LBeltRows$Way;" } : Jvm.MethodName)) ∈ TBL := tbl_3 144 rfl rfl
theorem m_625 : (Jvm.Cond.methodLink "BeltRows" (291 : Nat) ({ cls := "BeltRows$Way", name := "isDueBefore", desc := "(LBeltRows$Way;)Z" } : Jvm.MethodName)) ∈ TBL := tbl_3 145 rfl rfl
theorem m_626 : (Jvm.Cond.instanceMethod ({ cls := "BeltRows$Way", name := "isDueBefore", desc := "(LBeltRows$Way;)Z" } : Jvm.MethodName)) ∈ TBL := tbl_3 146 rfl rfl
theorem m_627 : (Jvm.Cond.selects "BeltRows$Way" ({ cls := "BeltRows$Way", name := "isDueBefore", desc := "(LBeltRows$Way;)Z" } : Jvm.MethodName) ({ cls := "BeltRows$Way", name := "isDueBefore", desc := "(LBeltRows$Way;)Z" } : Jvm.MethodName)) ∈ TBL := tbl_3 147 rfl rfl
theorem m_628 : (Jvm.Cond.code ({ cls := "BeltRows$Way", name := "isDueBefore", desc := "(LBeltRows$Way;)Z" } : Jvm.MethodName) prog_6_method_4_code (2 : Nat) (Option.some Jvm.ClassFile.FieldType.boolean)) ∈ TBL := tbl_3 148 rfl rfl
theorem m_629 : (Jvm.Cond.methodLink "BeltRows" (288 : Nat) ({ cls := "BeltRows$Belt", name := "letGo", desc := "(LBeltRows$Item;)V" } : Jvm.MethodName)) ∈ TBL := tbl_3 149 rfl rfl
theorem m_630 : (Jvm.Cond.methodLink "BeltRows" (255 : Nat) ({ cls := "BeltRows", name := "moveItems", desc := "(LBeltRows$Belt;)V" } : Jvm.MethodName)) ∈ TBL := tbl_3 150 rfl rfl
theorem m_632 : (Jvm.Cond.instanceMethod ({ cls := "BeltRows", name := "moveItems", desc := "(LBeltRows$Belt;)V" } : Jvm.MethodName)) ∈ TBL := tbl_3 152 rfl rfl
theorem m_633 : (Jvm.Cond.code ({ cls := "BeltRows", name := "moveItems", desc := "(LBeltRows$Belt;)V" } : Jvm.MethodName) prog_1_method_33_code (4 : Nat) (Option.none : Option Jvm.ClassFile.FieldType)) ∈ TBL := tbl_3 153 rfl rfl
theorem m_634 : (Jvm.Cond.methodLink "BeltRows" (295 : Nat) ({ cls := "BeltRows$Item", name := "goOn", desc := "(LBeltRows$Belt;I)V" } : Jvm.MethodName)) ∈ TBL := tbl_3 154 rfl rfl
theorem m_635 : (Jvm.Cond.instanceMethod ({ cls := "BeltRows$Item", name := "goOn", desc := "(LBeltRows$Belt;I)V" } : Jvm.MethodName)) ∈ TBL := tbl_3 155 rfl rfl
theorem m_636 : (Jvm.Cond.selects "BeltRows$Item" ({ cls := "BeltRows$Item", name := "goOn", desc := "(LBeltRows$Belt;I)V" } : Jvm.MethodName) ({ cls := "BeltRows$Item", name := "goOn", desc := "(LBeltRows$Belt;I)V" } : Jvm.MethodName)) ∈ TBL := tbl_3 156 rfl rfl
theorem m_637 : (Jvm.Cond.code ({ cls := "BeltRows$Item", name := "goOn", desc := "(LBeltRows$Belt;I)V" } : Jvm.MethodName) prog_4_method_5_code (4 : Nat) (Option.none : Option Jvm.ClassFile.FieldType)) ∈ TBL := tbl_3 157 rfl rfl
theorem m_638 : (Jvm.Cond.methodLink "BeltRows$Item" (58 : Nat) ({ cls := "BeltRows$Item", name := "rear", desc := "()I" } : Jvm.MethodName)) ∈ TBL := tbl_3 158 rfl rfl
theorem m_639 : (Jvm.Cond.methodLink "BeltRows$Item" (62 : Nat) ({ cls := "java/lang/Math", name := "min", desc := "(II)I" } : Jvm.MethodName)) ∈ TBL := tbl_3 159 rfl rfl
theorem m_640 : (Jvm.Cond.methodLink "BeltRows$Item" (71 : Nat) ({ cls := "java/lang/Math", name := "max", desc := "(II)I" } : Jvm.MethodName)) ∈ TBL := tbl_3 160 rfl rfl
theorem m_641 : (Jvm.Cond.methodLink "BeltRows" (298 : Nat) ({ cls := "BeltRows", name := "noteReads", desc := "(LBeltRows$Belt;LBeltRows$Item;I)V" } : Jvm.MethodName)) ∈ TBL := tbl_3 161 rfl rfl
theorem m_643 : (Jvm.Cond.instanceMethod ({ cls := "BeltRows", name := "noteReads", desc := "(LBeltRows$Belt;LBeltRows$Item;I)V" } : Jvm.MethodName)) ∈ TBL := tbl_3 163 rfl rfl
theorem m_644 : (Jvm.Cond.code ({ cls := "BeltRows", name := "noteReads", desc := "(LBeltRows$Belt;LBeltRows$Item;I)V" } : Jvm.MethodName) prog_1_method_34_code (7 : Nat) (Option.none : Option Jvm.ClassFile.FieldType)) ∈ TBL := tbl_3 164 rfl rfl
theorem m_645 : (Jvm.Cond.methodLink "BeltRowsLaw" (113 : Nat) ({ cls := "BeltRowsLaw", name := "edge", desc := "(LBeltRows;II[J)I" } : Jvm.MethodName)) ∈ TBL := tbl_3 165 rfl rfl
theorem m_646 : (Jvm.Cond.static ({ cls := "BeltRowsLaw", name := "edge", desc := "(LBeltRows;II[J)I" } : Jvm.MethodName)) ∈ TBL := tbl_3 166 rfl rfl
theorem m_647 : (Jvm.Cond.codeWith ({ cls := "BeltRowsLaw", name := "edge", desc := "(LBeltRows;II[J)I" } : Jvm.MethodName) method_11_code (5 : Nat) (Option.some Jvm.ClassFile.FieldType.int) [((0 : Nat), (10 : Nat), (13 : Nat), (21 : Nat)), ((0 : Nat), (10 : Nat), (17 : Nat), (13 : Nat))]) ∈ TBL := tbl_3 167 rfl rfl
theorem m_648 : (Jvm.Cond.methodLink "BeltRowsLaw" (47 : Nat) ({ cls := "BeltRows", name := "edge", desc := "(II)I" } : Jvm.MethodName)) ∈ TBL := tbl_3 168 rfl rfl
theorem m_649 : (Jvm.Cond.instanceMethod ({ cls := "BeltRows", name := "edge", desc := "(II)I" } : Jvm.MethodName)) ∈ TBL := tbl_3 169 rfl rfl
theorem m_650 : (Jvm.Cond.selects "BeltRows" ({ cls := "BeltRows", name := "edge", desc := "(II)I" } : Jvm.MethodName) ({ cls := "BeltRows", name := "edge", desc := "(II)I" } : Jvm.MethodName)) ∈ TBL := tbl_3 170 rfl rfl
theorem m_651 : (Jvm.Cond.code ({ cls := "BeltRows", name := "edge", desc := "(II)I" } : Jvm.MethodName) prog_1_method_10_code (4 : Nat) (Option.some Jvm.ClassFile.FieldType.int)) ∈ TBL := tbl_3 171 rfl rfl
theorem m_654 : (Jvm.Cond.methodLink "BeltRowsLaw" (116 : Nat) ({ cls := "BeltRowsLaw", name := "slip", desc := "(LBeltRows;II[J)I" } : Jvm.MethodName)) ∈ TBL := tbl_3 174 rfl rfl
theorem m_655 : (Jvm.Cond.static ({ cls := "BeltRowsLaw", name := "slip", desc := "(LBeltRows;II[J)I" } : Jvm.MethodName)) ∈ TBL := tbl_3 175 rfl rfl
theorem m_656 : (Jvm.Cond.codeWith ({ cls := "BeltRowsLaw", name := "slip", desc := "(LBeltRows;II[J)I" } : Jvm.MethodName) method_12_code (5 : Nat) (Option.some Jvm.ClassFile.FieldType.int) [((0 : Nat), (10 : Nat), (13 : Nat), (21 : Nat)), ((0 : Nat), (10 : Nat), (17 : Nat), (13 : Nat)), ((0 : Nat), (10 : Nat), (21 : Nat), (41 : Nat))]) ∈ TBL := tbl_3 176 rfl rfl
theorem m_657 : (Jvm.Cond.methodLink "BeltRowsLaw" (50 : Nat) ({ cls := "BeltRows", name := "slip", desc := "(II)I" } : Jvm.MethodName)) ∈ TBL := tbl_3 177 rfl rfl
theorem m_658 : (Jvm.Cond.instanceMethod ({ cls := "BeltRows", name := "slip", desc := "(II)I" } : Jvm.MethodName)) ∈ TBL := tbl_3 178 rfl rfl
theorem m_659 : (Jvm.Cond.selects "BeltRows" ({ cls := "BeltRows", name := "slip", desc := "(II)I" } : Jvm.MethodName) ({ cls := "BeltRows", name := "slip", desc := "(II)I" } : Jvm.MethodName)) ∈ TBL := tbl_3 179 rfl rfl
theorem m_660 : (Jvm.Cond.code ({ cls := "BeltRows", name := "slip", desc := "(II)I" } : Jvm.MethodName) prog_1_method_11_code (5 : Nat) (Option.some Jvm.ClassFile.FieldType.int)) ∈ TBL := tbl_3 180 rfl rfl
theorem m_663 : (Jvm.Cond.methodLink "BeltRowsLaw" (119 : Nat) ({ cls := "BeltRowsLaw", name := "take", desc := "(LBeltRows;I)I" } : Jvm.MethodName)) ∈ TBL := tbl_3 183 rfl rfl
theorem m_664 : (Jvm.Cond.static ({ cls := "BeltRowsLaw", name := "take", desc := "(LBeltRows;I)I" } : Jvm.MethodName)) ∈ TBL := tbl_3 184 rfl rfl
theorem m_665 : (Jvm.Cond.codeWith ({ cls := "BeltRowsLaw", name := "take", desc := "(LBeltRows;I)I" } : Jvm.MethodName) method_13_code (3 : Nat) (Option.some Jvm.ClassFile.FieldType.int) [((0 : Nat), (5 : Nat), (8 : Nat), (21 : Nat)), ((0 : Nat), (5 : Nat), (11 : Nat), (41 : Nat))]) ∈ TBL := tbl_3 185 rfl rfl
theorem m_666 : (Jvm.Cond.methodLink "BeltRowsLaw" (53 : Nat) ({ cls := "BeltRows", name := "take", desc := "(I)V" } : Jvm.MethodName)) ∈ TBL := tbl_3 186 rfl rfl
theorem m_667 : (Jvm.Cond.instanceMethod ({ cls := "BeltRows", name := "take", desc := "(I)V" } : Jvm.MethodName)) ∈ TBL := tbl_3 187 rfl rfl
theorem m_668 : (Jvm.Cond.selects "BeltRows" ({ cls := "BeltRows", name := "take", desc := "(I)V" } : Jvm.MethodName) ({ cls := "BeltRows", name := "take", desc := "(I)V" } : Jvm.MethodName)) ∈ TBL := tbl_3 188 rfl rfl
theorem m_669 : (Jvm.Cond.code ({ cls := "BeltRows", name := "take", desc := "(I)V" } : Jvm.MethodName) prog_1_method_12_code (3 : Nat) (Option.none : Option Jvm.ClassFile.FieldType)) ∈ TBL := tbl_3 189 rfl rfl
theorem m_670 : (Jvm.Cond.methodLink "BeltRowsLaw" (122 : Nat) ({ cls := "BeltRowsLaw", name := "clean", desc := "(LBeltRows;I[J)I" } : Jvm.MethodName)) ∈ TBL := tbl_3 190 rfl rfl
theorem m_671 : (Jvm.Cond.static ({ cls := "BeltRowsLaw", name := "clean", desc := "(LBeltRows;I[J)I" } : Jvm.MethodName)) ∈ TBL := tbl_3 191 rfl rfl
theorem m_672 : (Jvm.Cond.codeWith ({ cls := "BeltRowsLaw", name := "clean", desc := "(LBeltRows;I[J)I" } : Jvm.MethodName) method_14_code (4 : Nat) (Option.some Jvm.ClassFile.FieldType.int) [((0 : Nat), (9 : Nat), (12 : Nat), (21 : Nat)), ((0 : Nat), (9 : Nat), (15 : Nat), (41 : Nat))]) ∈ TBL := tbl_3 192 rfl rfl
theorem m_673 : (Jvm.Cond.methodLink "BeltRowsLaw" (56 : Nat) ({ cls := "BeltRows", name := "clean", desc := "(I)I" } : Jvm.MethodName)) ∈ TBL := tbl_3 193 rfl rfl
theorem m_674 : (Jvm.Cond.instanceMethod ({ cls := "BeltRows", name := "clean", desc := "(I)I" } : Jvm.MethodName)) ∈ TBL := tbl_3 194 rfl rfl
theorem m_675 : (Jvm.Cond.selects "BeltRows" ({ cls := "BeltRows", name := "clean", desc := "(I)I" } : Jvm.MethodName) ({ cls := "BeltRows", name := "clean", desc := "(I)I" } : Jvm.MethodName)) ∈ TBL := tbl_3 195 rfl rfl
theorem m_676 : (Jvm.Cond.code ({ cls := "BeltRows", name := "clean", desc := "(I)I" } : Jvm.MethodName) prog_1_method_13_code (5 : Nat) (Option.some Jvm.ClassFile.FieldType.int)) ∈ TBL := tbl_3 196 rfl rfl
theorem m_678 : (Jvm.Cond.methodLink "BeltRowsLaw" (125 : Nat) ({ cls := "BeltRowsLaw", name := "gap", desc := "(LBeltRows;II[J)I" } : Jvm.MethodName)) ∈ TBL := tbl_3 198 rfl rfl
theorem m_679 : (Jvm.Cond.static ({ cls := "BeltRowsLaw", name := "gap", desc := "(LBeltRows;II[J)I" } : Jvm.MethodName)) ∈ TBL := tbl_3 199 rfl rfl
theorem m_680 : (Jvm.Cond.codeWith ({ cls := "BeltRowsLaw", name := "gap", desc := "(LBeltRows;II[J)I" } : Jvm.MethodName) method_15_code (5 : Nat) (Option.some Jvm.ClassFile.FieldType.int) [((0 : Nat), (10 : Nat), (13 : Nat), (21 : Nat)), ((0 : Nat), (10 : Nat), (17 : Nat), (41 : Nat))]) ∈ TBL := tbl_3 200 rfl rfl
theorem m_681 : (Jvm.Cond.methodLink "BeltRowsLaw" (59 : Nat) ({ cls := "BeltRows", name := "gap", desc := "(II)I" } : Jvm.MethodName)) ∈ TBL := tbl_3 201 rfl rfl
theorem m_682 : (Jvm.Cond.instanceMethod ({ cls := "BeltRows", name := "gap", desc := "(II)I" } : Jvm.MethodName)) ∈ TBL := tbl_3 202 rfl rfl
theorem m_683 : (Jvm.Cond.selects "BeltRows" ({ cls := "BeltRows", name := "gap", desc := "(II)I" } : Jvm.MethodName) ({ cls := "BeltRows", name := "gap", desc := "(II)I" } : Jvm.MethodName)) ∈ TBL := tbl_3 203 rfl rfl
theorem m_684 : (Jvm.Cond.code ({ cls := "BeltRows", name := "gap", desc := "(II)I" } : Jvm.MethodName) prog_1_method_14_code (5 : Nat) (Option.some Jvm.ClassFile.FieldType.int)) ∈ TBL := tbl_3 204 rfl rfl
theorem m_686 : (Jvm.Cond.methodLink "BeltRowsLaw" (128 : Nat) ({ cls := "BeltRowsLaw", name := "told", desc := "(LBeltRows;II[J)I" } : Jvm.MethodName)) ∈ TBL := tbl_3 206 rfl rfl
theorem m_687 : (Jvm.Cond.static ({ cls := "BeltRowsLaw", name := "told", desc := "(LBeltRows;II[J)I" } : Jvm.MethodName)) ∈ TBL := tbl_3 207 rfl rfl
theorem m_688 : (Jvm.Cond.codeWith ({ cls := "BeltRowsLaw", name := "told", desc := "(LBeltRows;II[J)I" } : Jvm.MethodName) method_16_code (5 : Nat) (Option.some Jvm.ClassFile.FieldType.int) [((0 : Nat), (10 : Nat), (13 : Nat), (21 : Nat)), ((0 : Nat), (10 : Nat), (17 : Nat), (13 : Nat))]) ∈ TBL := tbl_3 208 rfl rfl
theorem m_689 : (Jvm.Cond.methodLink "BeltRowsLaw" (62 : Nat) ({ cls := "BeltRows", name := "told", desc := "(II)I" } : Jvm.MethodName)) ∈ TBL := tbl_3 209 rfl rfl
theorem m_690 : (Jvm.Cond.instanceMethod ({ cls := "BeltRows", name := "told", desc := "(II)I" } : Jvm.MethodName)) ∈ TBL := tbl_3 210 rfl rfl
theorem m_691 : (Jvm.Cond.selects "BeltRows" ({ cls := "BeltRows", name := "told", desc := "(II)I" } : Jvm.MethodName) ({ cls := "BeltRows", name := "told", desc := "(II)I" } : Jvm.MethodName)) ∈ TBL := tbl_3 211 rfl rfl
theorem m_692 : (Jvm.Cond.code ({ cls := "BeltRows", name := "told", desc := "(II)I" } : Jvm.MethodName) prog_1_method_15_code (5 : Nat) (Option.some Jvm.ClassFile.FieldType.int)) ∈ TBL := tbl_3 212 rfl rfl
theorem m_694 : (Jvm.Cond.methodLink "BeltRowsLaw" (131 : Nat) ({ cls := "BeltRowsLaw", name := "known", desc := "(LBeltRows;II[J)I" } : Jvm.MethodName)) ∈ TBL := tbl_3 214 rfl rfl
theorem m_695 : (Jvm.Cond.static ({ cls := "BeltRowsLaw", name := "known", desc := "(LBeltRows;II[J)I" } : Jvm.MethodName)) ∈ TBL := tbl_3 215 rfl rfl
theorem m_696 : (Jvm.Cond.codeWith ({ cls := "BeltRowsLaw", name := "known", desc := "(LBeltRows;II[J)I" } : Jvm.MethodName) method_17_code (5 : Nat) (Option.some Jvm.ClassFile.FieldType.int) [((0 : Nat), (10 : Nat), (13 : Nat), (21 : Nat)), ((0 : Nat), (10 : Nat), (17 : Nat), (13 : Nat))]) ∈ TBL := tbl_3 216 rfl rfl
theorem m_697 : (Jvm.Cond.methodLink "BeltRowsLaw" (65 : Nat) ({ cls := "BeltRows", name := "known", desc := "(II)I" } : Jvm.MethodName)) ∈ TBL := tbl_3 217 rfl rfl
theorem m_698 : (Jvm.Cond.instanceMethod ({ cls := "BeltRows", name := "known", desc := "(II)I" } : Jvm.MethodName)) ∈ TBL := tbl_3 218 rfl rfl
theorem m_699 : (Jvm.Cond.selects "BeltRows" ({ cls := "BeltRows", name := "known", desc := "(II)I" } : Jvm.MethodName) ({ cls := "BeltRows", name := "known", desc := "(II)I" } : Jvm.MethodName)) ∈ TBL := tbl_3 219 rfl rfl
theorem m_700 : (Jvm.Cond.code ({ cls := "BeltRows", name := "known", desc := "(II)I" } : Jvm.MethodName) prog_1_method_16_code (4 : Nat) (Option.some Jvm.ClassFile.FieldType.int)) ∈ TBL := tbl_3 220 rfl rfl
theorem m_701 : (Jvm.Cond.methodLink "BeltRows" (207 : Nat) ({ cls := "BeltRows$Way", name := "nextNumber", desc := "()I" } : Jvm.MethodName)) ∈ TBL := tbl_3 221 rfl rfl
theorem m_702 : (Jvm.Cond.instanceMethod ({ cls := "BeltRows$Way", name := "nextNumber", desc := "()I" } : Jvm.MethodName)) ∈ TBL := tbl_3 222 rfl rfl
theorem m_703 : (Jvm.Cond.selects "BeltRows$Way" ({ cls := "BeltRows$Way", name := "nextNumber", desc := "()I" } : Jvm.MethodName) ({ cls := "BeltRows$Way", name := "nextNumber", desc := "()I" } : Jvm.MethodName)) ∈ TBL := tbl_3 223 rfl rfl
theorem m_704 : (Jvm.Cond.code ({ cls := "BeltRows$Way", name := "nextNumber", desc := "()I" } : Jvm.MethodName) prog_6_method_3_code (1 : Nat) (Option.some Jvm.ClassFile.FieldType.int)) ∈ TBL := tbl_3 224 rfl rfl
theorem m_706 : (Jvm.Cond.methodLink "BeltRowsLaw" (134 : Nat) ({ cls := "BeltRowsLaw", name := "order", desc := "(LBeltRows;I[J)I" } : Jvm.MethodName)) ∈ TBL := tbl_3 226 rfl rfl
theorem m_707 : (Jvm.Cond.static ({ cls := "BeltRowsLaw", name := "order", desc := "(LBeltRows;I[J)I" } : Jvm.MethodName)) ∈ TBL := tbl_3 227 rfl rfl
theorem m_708 : (Jvm.Cond.codeWith ({ cls := "BeltRowsLaw", name := "order", desc := "(LBeltRows;I[J)I" } : Jvm.MethodName) method_18_code (4 : Nat) (Option.some Jvm.ClassFile.FieldType.int) [((0 : Nat), (9 : Nat), (12 : Nat), (21 : Nat))]) ∈ TBL := tbl_3 228 rfl rfl
theorem m_709 : (Jvm.Cond.methodLink "BeltRowsLaw" (68 : Nat) ({ cls := "BeltRows", name := "order", desc := "(I)I" } : Jvm.MethodName)) ∈ TBL := tbl_3 229 rfl rfl
theorem m_710 : (Jvm.Cond.instanceMethod ({ cls := "BeltRows", name := "order", desc := "(I)I" } : Jvm.MethodName)) ∈ TBL := tbl_3 230 rfl rfl
theorem m_711 : (Jvm.Cond.selects "BeltRows" ({ cls := "BeltRows", name := "order", desc := "(I)I" } : Jvm.MethodName) ({ cls := "BeltRows", name := "order", desc := "(I)I" } : Jvm.MethodName)) ∈ TBL := tbl_3 231 rfl rfl
theorem m_712 : (Jvm.Cond.code ({ cls := "BeltRows", name := "order", desc := "(I)I" } : Jvm.MethodName) prog_1_method_17_code (2 : Nat) (Option.some Jvm.ClassFile.FieldType.int)) ∈ TBL := tbl_3 232 rfl rfl
theorem m_714 : (Jvm.Cond.methodLink "BeltRowsLaw" (137 : Nat) ({ cls := "BeltRowsLaw", name := "mean", desc := "(LBeltRows;[J)I" } : Jvm.MethodName)) ∈ TBL := tbl_3 234 rfl rfl
theorem m_715 : (Jvm.Cond.static ({ cls := "BeltRowsLaw", name := "mean", desc := "(LBeltRows;[J)I" } : Jvm.MethodName)) ∈ TBL := tbl_3 235 rfl rfl
theorem m_716 : (Jvm.Cond.codeWith ({ cls := "BeltRowsLaw", name := "mean", desc := "(LBeltRows;[J)I" } : Jvm.MethodName) method_19_code (3 : Nat) (Option.some Jvm.ClassFile.FieldType.int) [((0 : Nat), (8 : Nat), (11 : Nat), (75 : Nat))]) ∈ TBL := tbl_3 236 rfl rfl
theorem m_717 : (Jvm.Cond.classLink "BeltRowsLaw" (75 : Nat) "java/lang/ArithmeticException") ∈ TBL := tbl_3 237 rfl rfl
theorem m_718 : (Jvm.Cond.methodLink "BeltRowsLaw" (71 : Nat) ({ cls := "BeltRows", name := "mean", desc := "()I" } : Jvm.MethodName)) ∈ TBL := tbl_3 238 rfl rfl
theorem m_719 : (Jvm.Cond.instanceMethod ({ cls := "BeltRows", name := "mean", desc := "()I" } : Jvm.MethodName)) ∈ TBL := tbl_3 239 rfl rfl
theorem m_720 : (Jvm.Cond.selects "BeltRows" ({ cls := "BeltRows", name := "mean", desc := "()I" } : Jvm.MethodName) ({ cls := "BeltRows", name := "mean", desc := "()I" } : Jvm.MethodName)) ∈ TBL := tbl_4 0 rfl rfl
theorem m_721 : (Jvm.Cond.code ({ cls := "BeltRows", name := "mean", desc := "()I" } : Jvm.MethodName) prog_1_method_18_code (2 : Nat) (Option.some Jvm.ClassFile.FieldType.int)) ∈ TBL := tbl_4 1 rfl rfl
theorem m_722 : (Jvm.Cond.classLink "BeltRows" (217 : Nat) "java/lang/ArithmeticException") ∈ TBL := tbl_4 2 rfl rfl
theorem m_723 : (Jvm.Cond.instantiable "java/lang/ArithmeticException" (6 : Nat)) ∈ TBL := tbl_4 3 rfl rfl
theorem m_725 : (Jvm.Cond.selects "java/lang/ArithmeticException" ({ cls := "java/lang/Throwable", name := "fillInStackTrace", desc := "(I)Ljava/lang/Throwable;" } : Jvm.MethodName) ({ cls := "java/lang/Throwable", name := "fillInStackTrace", desc := "(I)Ljava/lang/Throwable;" } : Jvm.MethodName)) ∈ TBL := tbl_4 5 rfl rfl
theorem m_726 : (Jvm.Cond.lays "java/lang/ArithmeticException" "java/lang/Throwable" "cause" "Ljava/lang/Throwable;") ∈ TBL := tbl_4 6 rfl rfl
theorem m_727 : (Jvm.Cond.lays "java/lang/ArithmeticException" "java/lang/Throwable" "stackTrace" "[Ljava/lang/StackTraceElement;") ∈ TBL := tbl_4 7 rfl rfl
theorem m_728 : (Jvm.Cond.lays "java/lang/ArithmeticException" "java/lang/Throwable" "suppressedExceptions" "Ljava/util/List;") ∈ TBL := tbl_4 8 rfl rfl
theorem m_729 : (Jvm.Cond.lays "java/lang/ArithmeticException" "java/lang/Throwable" "detailMessage" "Ljava/lang/String;") ∈ TBL := tbl_4 9 rfl rfl
theorem m_730 : (Jvm.Cond.lays "java/lang/ArithmeticException" "java/lang/Throwable" "backtrace" "Ljava/lang/Object;") ∈ TBL := tbl_4 10 rfl rfl
theorem m_732 : (Jvm.Cond.methodLink "BeltRows" (221 : Nat) ({ cls := "java/lang/ArithmeticException", name := "<init>", desc := "(Ljava/lang/String;)V" } : Jvm.MethodName)) ∈ TBL := tbl_4 12 rfl rfl
theorem m_733 : (Jvm.Cond.instanceMethod ({ cls := "java/lang/ArithmeticException", name := "<init>", desc := "(Ljava/lang/String;)V" } : Jvm.MethodName)) ∈ TBL := tbl_4 13 rfl rfl
theorem m_734 : (Jvm.Cond.code ({ cls := "java/lang/ArithmeticException", name := "<init>", desc := "(Ljava/lang/String;)V" } : Jvm.MethodName) prog_10_method_2_code (2 : Nat) (Option.none : Option Jvm.ClassFile.FieldType)) ∈ TBL := tbl_4 14 rfl rfl
theorem m_735 : (Jvm.Cond.methodLink "java/lang/ArithmeticException" (7 : Nat) ({ cls := "java/lang/RuntimeException", name := "<init>", desc := "(Ljava/lang/String;)V" } : Jvm.MethodName)) ∈ TBL := tbl_4 15 rfl rfl
theorem m_736 : (Jvm.Cond.lays "java/lang/ArithmeticException" "java/lang/Throwable" "depth" "I") ∈ TBL := tbl_4 16 rfl rfl
theorem m_738 : (Jvm.Cond.classLink "BeltRowsLaw" (78 : Nat) "BeltRowsModel") ∈ TBL := tbl_4 18 rfl rfl
theorem m_739 : (Jvm.Cond.instantiable "BeltRowsModel" (32 : Nat)) ∈ TBL := tbl_4 19 rfl rfl
theorem m_740 : (Jvm.Cond.methodLink "BeltRowsLaw" (80 : Nat) ({ cls := "BeltRowsModel", name := "<init>", desc := "()V" } : Jvm.MethodName)) ∈ TBL := tbl_4 20 rfl rfl
theorem m_741 : (Jvm.Cond.instanceMethod ({ cls := "BeltRowsModel", name := "<init>", desc := "()V" } : Jvm.MethodName)) ∈ TBL := tbl_4 21 rfl rfl
theorem m_742 : (Jvm.Cond.code ({ cls := "BeltRowsModel", name := "<init>", desc := "()V" } : Jvm.MethodName) prog_8_method_1_code (1 : Nat) (Option.none : Option Jvm.ClassFile.FieldType)) ∈ TBL := tbl_4 22 rfl rfl
theorem m_743 : (Jvm.Cond.methodLink "BeltRowsModel" (1 : Nat) ({ cls := "java/lang/Object", name := "<init>", desc := "()V" } : Jvm.MethodName)) ∈ TBL := tbl_4 23 rfl rfl
theorem m_744 : (Jvm.Cond.fieldLink "BeltRowsModel" (82 : Nat) "BeltRowsModel" "code" "I") ∈ TBL := tbl_4 24 rfl rfl
theorem m_745 : (Jvm.Cond.fieldLink "BeltRowsModel" (115 : Nat) "BeltRowsModel" "time" "I") ∈ TBL := tbl_4 25 rfl rfl
theorem m_746 : (Jvm.Cond.fieldLink "BeltRowsModel" (7 : Nat) "BeltRowsModel" "least" "I") ∈ TBL := tbl_4 26 rfl rfl
theorem m_747 : (Jvm.Cond.fieldLink "BeltRowsModel" (85 : Nat) "BeltRowsModel" "belts" "I") ∈ TBL := tbl_4 27 rfl rfl
theorem m_748 : (Jvm.Cond.fieldLink "BeltRowsModel" (13 : Nat) "BeltRowsModel" "length" "[I") ∈ TBL := tbl_4 28 rfl rfl
theorem m_749 : (Jvm.Cond.fieldLink "BeltRowsModel" (17 : Nat) "BeltRowsModel" "speed" "[I") ∈ TBL := tbl_4 29 rfl rfl
theorem m_750 : (Jvm.Cond.fieldLink "BeltRowsModel" (20 : Nat) "BeltRowsModel" "runs" "[Z") ∈ TBL := tbl_4 30 rfl rfl
theorem m_751 : (Jvm.Cond.fieldLink "BeltRowsModel" (24 : Nat) "BeltRowsModel" "next" "[I") ∈ TBL := tbl_4 31 rfl rfl
theorem m_752 : (Jvm.Cond.fieldLink "BeltRowsModel" (27 : Nat) "BeltRowsModel" "share" "[I") ∈ TBL := tbl_4 32 rfl rfl
theorem m_753 : (Jvm.Cond.fieldLink "BeltRowsModel" (30 : Nat) "BeltRowsModel" "went" "[I") ∈ TBL := tbl_4 33 rfl rfl
theorem m_754 : (Jvm.Cond.fieldLink "BeltRowsModel" (33 : Nat) "BeltRowsModel" "size" "[I") ∈ TBL := tbl_4 34 rfl rfl
theorem m_755 : (Jvm.Cond.fieldLink "BeltRowsModel" (36 : Nat) "BeltRowsModel" "row" "[I") ∈ TBL := tbl_4 35 rfl rfl
theorem m_756 : (Jvm.Cond.fieldLink "BeltRowsModel" (92 : Nat) "BeltRowsModel" "items" "I") ∈ TBL := tbl_4 36 rfl rfl
theorem m_757 : (Jvm.Cond.fieldLink "BeltRowsModel" (39 : Nat) "BeltRowsModel" "state" "[I") ∈ TBL := tbl_4 37 rfl rfl
theorem m_758 : (Jvm.Cond.fieldLink "BeltRowsModel" (42 : Nat) "BeltRowsModel" "belt" "[I") ∈ TBL := tbl_4 38 rfl rfl
theorem m_759 : (Jvm.Cond.fieldLink "BeltRowsModel" (45 : Nat) "BeltRowsModel" "place" "[I") ∈ TBL := tbl_4 39 rfl rfl
theorem m_760 : (Jvm.Cond.fieldLink "BeltRowsModel" (48 : Nat) "BeltRowsModel" "long0" "[I") ∈ TBL := tbl_4 40 rfl rfl
theorem m_761 : (Jvm.Cond.fieldLink "BeltRowsModel" (51 : Nat) "BeltRowsModel" "way" "[I") ∈ TBL := tbl_4 41 rfl rfl
theorem m_762 : (Jvm.Cond.fieldLink "BeltRowsModel" (54 : Nat) "BeltRowsModel" "wayTold" "[Z") ∈ TBL := tbl_4 42 rfl rfl
theorem m_763 : (Jvm.Cond.fieldLink "BeltRowsModel" (57 : Nat) "BeltRowsModel" "expected" "[I") ∈ TBL := tbl_4 43 rfl rfl
theorem m_764 : (Jvm.Cond.fieldLink "BeltRowsModel" (60 : Nat) "BeltRowsModel" "put" "[I") ∈ TBL := tbl_4 44 rfl rfl
theorem m_765 : (Jvm.Cond.fieldLink "BeltRowsModel" (99 : Nat) "BeltRowsModel" "scanners" "I") ∈ TBL := tbl_4 45 rfl rfl
theorem m_766 : (Jvm.Cond.fieldLink "BeltRowsModel" (63 : Nat) "BeltRowsModel" "scanBelt" "[I") ∈ TBL := tbl_4 46 rfl rfl
theorem m_767 : (Jvm.Cond.fieldLink "BeltRowsModel" (66 : Nat) "BeltRowsModel" "scanPlace" "[I") ∈ TBL := tbl_4 47 rfl rfl
theorem m_768 : (Jvm.Cond.fieldLink "BeltRowsModel" (69 : Nat) "BeltRowsModel" "delay" "[I") ∈ TBL := tbl_4 48 rfl rfl
theorem m_769 : (Jvm.Cond.fieldLink "BeltRowsModel" (128 : Nat) "BeltRowsModel" "waiting" "I") ∈ TBL := tbl_4 49 rfl rfl
theorem m_770 : (Jvm.Cond.fieldLink "BeltRowsModel" (72 : Nat) "BeltRowsModel" "waits" "[J") ∈ TBL := tbl_4 50 rfl rfl
theorem m_771 : (Jvm.Cond.fieldLink "BeltRowsModel" (125 : Nat) "BeltRowsModel" "edges" "I") ∈ TBL := tbl_4 51 rfl rfl
theorem m_772 : (Jvm.Cond.fieldLink "BeltRowsModel" (76 : Nat) "BeltRowsModel" "told" "[J") ∈ TBL := tbl_4 52 rfl rfl
theorem m_773 : (Jvm.Cond.fieldLink "BeltRowsModel" (147 : Nat) "BeltRowsModel" "outs" "I") ∈ TBL := tbl_4 53 rfl rfl
theorem m_774 : (Jvm.Cond.fieldLink "BeltRowsModel" (150 : Nat) "BeltRowsModel" "seconds" "I") ∈ TBL := tbl_4 54 rfl rfl
theorem m_775 : (Jvm.Cond.fieldLink "BeltRowsModel" (79 : Nat) "BeltRowsModel" "outRow" "[I") ∈ TBL := tbl_4 55 rfl rfl
theorem m_776 : (Jvm.Cond.lays "BeltRowsModel" "BeltRowsModel" "code" "I") ∈ TBL := tbl_4 56 rfl rfl
theorem m_778 : (Jvm.Cond.lays "BeltRowsModel" "BeltRowsModel" "time" "I") ∈ TBL := tbl_4 58 rfl rfl
theorem m_780 : (Jvm.Cond.lays "BeltRowsModel" "BeltRowsModel" "least" "I") ∈ TBL := tbl_4 60 rfl rfl
theorem m_782 : (Jvm.Cond.lays "BeltRowsModel" "BeltRowsModel" "belts" "I") ∈ TBL := tbl_4 62 rfl rfl
theorem m_784 : (Jvm.Cond.laysFinal "BeltRowsModel" "BeltRowsModel" "length" "[I") ∈ TBL := tbl_4 64 rfl rfl
theorem m_786 : (Jvm.Cond.laysFinal "BeltRowsModel" "BeltRowsModel" "speed" "[I") ∈ TBL := tbl_4 66 rfl rfl
theorem m_788 : (Jvm.Cond.laysFinal "BeltRowsModel" "BeltRowsModel" "runs" "[Z") ∈ TBL := tbl_4 68 rfl rfl
theorem m_790 : (Jvm.Cond.laysFinal "BeltRowsModel" "BeltRowsModel" "next" "[I") ∈ TBL := tbl_4 70 rfl rfl
theorem m_792 : (Jvm.Cond.laysFinal "BeltRowsModel" "BeltRowsModel" "share" "[I") ∈ TBL := tbl_4 72 rfl rfl
theorem m_794 : (Jvm.Cond.laysFinal "BeltRowsModel" "BeltRowsModel" "went" "[I") ∈ TBL := tbl_4 74 rfl rfl
theorem m_796 : (Jvm.Cond.laysFinal "BeltRowsModel" "BeltRowsModel" "size" "[I") ∈ TBL := tbl_4 76 rfl rfl
theorem m_798 : (Jvm.Cond.laysFinal "BeltRowsModel" "BeltRowsModel" "row" "[I") ∈ TBL := tbl_4 78 rfl rfl
theorem m_800 : (Jvm.Cond.lays "BeltRowsModel" "BeltRowsModel" "items" "I") ∈ TBL := tbl_4 80 rfl rfl
theorem m_802 : (Jvm.Cond.laysFinal "BeltRowsModel" "BeltRowsModel" "state" "[I") ∈ TBL := tbl_4 82 rfl rfl
theorem m_804 : (Jvm.Cond.laysFinal "BeltRowsModel" "BeltRowsModel" "belt" "[I") ∈ TBL := tbl_4 84 rfl rfl
theorem m_806 : (Jvm.Cond.laysFinal "BeltRowsModel" "BeltRowsModel" "place" "[I") ∈ TBL := tbl_4 86 rfl rfl
theorem m_808 : (Jvm.Cond.laysFinal "BeltRowsModel" "BeltRowsModel" "long0" "[I") ∈ TBL := tbl_4 88 rfl rfl
theorem m_810 : (Jvm.Cond.laysFinal "BeltRowsModel" "BeltRowsModel" "way" "[I") ∈ TBL := tbl_4 90 rfl rfl
theorem m_812 : (Jvm.Cond.laysFinal "BeltRowsModel" "BeltRowsModel" "wayTold" "[Z") ∈ TBL := tbl_4 92 rfl rfl
theorem m_814 : (Jvm.Cond.laysFinal "BeltRowsModel" "BeltRowsModel" "expected" "[I") ∈ TBL := tbl_4 94 rfl rfl
theorem m_816 : (Jvm.Cond.laysFinal "BeltRowsModel" "BeltRowsModel" "put" "[I") ∈ TBL := tbl_4 96 rfl rfl
theorem m_818 : (Jvm.Cond.lays "BeltRowsModel" "BeltRowsModel" "scanners" "I") ∈ TBL := tbl_4 98 rfl rfl
theorem m_820 : (Jvm.Cond.laysFinal "BeltRowsModel" "BeltRowsModel" "scanBelt" "[I") ∈ TBL := tbl_4 100 rfl rfl
theorem m_822 : (Jvm.Cond.laysFinal "BeltRowsModel" "BeltRowsModel" "scanPlace" "[I") ∈ TBL := tbl_4 102 rfl rfl
theorem m_824 : (Jvm.Cond.laysFinal "BeltRowsModel" "BeltRowsModel" "delay" "[I") ∈ TBL := tbl_4 104 rfl rfl
theorem m_826 : (Jvm.Cond.lays "BeltRowsModel" "BeltRowsModel" "waiting" "I") ∈ TBL := tbl_4 106 rfl rfl
theorem m_828 : (Jvm.Cond.laysFinal "BeltRowsModel" "BeltRowsModel" "waits" "[J") ∈ TBL := tbl_4 108 rfl rfl
theorem m_830 : (Jvm.Cond.lays "BeltRowsModel" "BeltRowsModel" "edges" "I") ∈ TBL := tbl_4 110 rfl rfl
theorem m_832 : (Jvm.Cond.laysFinal "BeltRowsModel" "BeltRowsModel" "told" "[J") ∈ TBL := tbl_4 112 rfl rfl
theorem m_834 : (Jvm.Cond.lays "BeltRowsModel" "BeltRowsModel" "outs" "I") ∈ TBL := tbl_4 114 rfl rfl
theorem m_836 : (Jvm.Cond.lays "BeltRowsModel" "BeltRowsModel" "seconds" "I") ∈ TBL := tbl_4 116 rfl rfl
theorem m_838 : (Jvm.Cond.laysFinal "BeltRowsModel" "BeltRowsModel" "outRow" "[I") ∈ TBL := tbl_4 118 rfl rfl
theorem m_841 : (Jvm.Cond.arrayClass Jvm.ClassFile.FieldType.int) ∈ TBL := tbl_4 121 rfl rfl
theorem m_842 : (Jvm.Cond.arrayClass Jvm.ClassFile.FieldType.boolean) ∈ TBL := tbl_4 122 rfl rfl
theorem m_843 : (Jvm.Cond.arrayClass Jvm.ClassFile.FieldType.long) ∈ TBL := tbl_4 123 rfl rfl
theorem m_844 : (Jvm.Cond.methodLink "BeltRowsLaw" (86 : Nat) ({ cls := "BeltRowsModel", name := "belt", desc := "(II)I" } : Jvm.MethodName)) ∈ TBL := tbl_4 124 rfl rfl
theorem m_845 : (Jvm.Cond.instanceMethod ({ cls := "BeltRowsModel", name := "belt", desc := "(II)I" } : Jvm.MethodName)) ∈ TBL := tbl_4 125 rfl rfl
theorem m_846 : (Jvm.Cond.selects "BeltRowsModel" ({ cls := "BeltRowsModel", name := "belt", desc := "(II)I" } : Jvm.MethodName) ({ cls := "BeltRowsModel", name := "belt", desc := "(II)I" } : Jvm.MethodName)) ∈ TBL := tbl_4 126 rfl rfl
theorem m_847 : (Jvm.Cond.code ({ cls := "BeltRowsModel", name := "belt", desc := "(II)I" } : Jvm.MethodName) prog_8_method_6_code (3 : Nat) (Option.some Jvm.ClassFile.FieldType.int)) ∈ TBL := tbl_4 127 rfl rfl
theorem m_848 : (Jvm.Cond.methodLink "BeltRowsModel" (88 : Nat) ({ cls := "BeltRowsModel", name := "in", desc := "(III)Z" } : Jvm.MethodName)) ∈ TBL := tbl_4 128 rfl rfl
theorem m_849 : (Jvm.Cond.static ({ cls := "BeltRowsModel", name := "in", desc := "(III)Z" } : Jvm.MethodName)) ∈ TBL := tbl_4 129 rfl rfl
theorem m_850 : (Jvm.Cond.code ({ cls := "BeltRowsModel", name := "in", desc := "(III)Z" } : Jvm.MethodName) prog_8_method_3_code (3 : Nat) (Option.some Jvm.ClassFile.FieldType.boolean)) ∈ TBL := tbl_4 130 rfl rfl
theorem m_851 : (Jvm.Cond.methodLink "BeltRowsLaw" (90 : Nat) ({ cls := "BeltRowsModel", name := "join", desc := "(IIII)I" } : Jvm.MethodName)) ∈ TBL := tbl_4 131 rfl rfl
theorem m_852 : (Jvm.Cond.instanceMethod ({ cls := "BeltRowsModel", name := "join", desc := "(IIII)I" } : Jvm.MethodName)) ∈ TBL := tbl_4 132 rfl rfl
theorem m_853 : (Jvm.Cond.selects "BeltRowsModel" ({ cls := "BeltRowsModel", name := "join", desc := "(IIII)I" } : Jvm.MethodName) ({ cls := "BeltRowsModel", name := "join", desc := "(IIII)I" } : Jvm.MethodName)) ∈ TBL := tbl_4 133 rfl rfl
theorem m_854 : (Jvm.Cond.code ({ cls := "BeltRowsModel", name := "join", desc := "(IIII)I" } : Jvm.MethodName) prog_8_method_7_code (7 : Nat) (Option.some Jvm.ClassFile.FieldType.int)) ∈ TBL := tbl_4 134 rfl rfl
theorem m_855 : (Jvm.Cond.methodLink "BeltRowsModel" (95 : Nat) ({ cls := "BeltRowsModel", name := "isBelt", desc := "(I)Z" } : Jvm.MethodName)) ∈ TBL := tbl_4 135 rfl rfl
theorem m_857 : (Jvm.Cond.instanceMethod ({ cls := "BeltRowsModel", name := "isBelt", desc := "(I)Z" } : Jvm.MethodName)) ∈ TBL := tbl_4 137 rfl rfl
theorem m_858 : (Jvm.Cond.code ({ cls := "BeltRowsModel", name := "isBelt", desc := "(I)Z" } : Jvm.MethodName) prog_8_method_4_code (2 : Nat) (Option.some Jvm.ClassFile.FieldType.boolean)) ∈ TBL := tbl_4 138 rfl rfl
theorem m_859 : (Jvm.Cond.methodLink "BeltRowsLaw" (94 : Nat) ({ cls := "BeltRowsModel", name := "run", desc := "(IIZ)V" } : Jvm.MethodName)) ∈ TBL := tbl_4 139 rfl rfl
theorem m_860 : (Jvm.Cond.instanceMethod ({ cls := "BeltRowsModel", name := "run", desc := "(IIZ)V" } : Jvm.MethodName)) ∈ TBL := tbl_4 140 rfl rfl
theorem m_861 : (Jvm.Cond.selects "BeltRowsModel" ({ cls := "BeltRowsModel", name := "run", desc := "(IIZ)V" } : Jvm.MethodName) ({ cls := "BeltRowsModel", name := "run", desc := "(IIZ)V" } : Jvm.MethodName)) ∈ TBL := tbl_4 141 rfl rfl
theorem m_862 : (Jvm.Cond.code ({ cls := "BeltRowsModel", name := "run", desc := "(IIZ)V" } : Jvm.MethodName) prog_8_method_8_code (4 : Nat) (Option.none : Option Jvm.ClassFile.FieldType)) ∈ TBL := tbl_4 142 rfl rfl
theorem m_863 : (Jvm.Cond.methodLink "BeltRowsLaw" (98 : Nat) ({ cls := "BeltRowsModel", name := "gaps", desc := "(I)V" } : Jvm.MethodName)) ∈ TBL := tbl_4 143 rfl rfl
theorem m_864 : (Jvm.Cond.instanceMethod ({ cls := "BeltRowsModel", name := "gaps", desc := "(I)V" } : Jvm.MethodName)) ∈ TBL := tbl_4 144 rfl rfl
theorem m_865 : (Jvm.Cond.selects "BeltRowsModel" ({ cls := "BeltRowsModel", name := "gaps", desc := "(I)V" } : Jvm.MethodName) ({ cls := "BeltRowsModel", name := "gaps", desc := "(I)V" } : Jvm.MethodName)) ∈ TBL := tbl_4 145 rfl rfl
theorem m_866 : (Jvm.Cond.code ({ cls := "BeltRowsModel", name := "gaps", desc := "(I)V" } : Jvm.MethodName) prog_8_method_9_code (2 : Nat) (Option.none : Option Jvm.ClassFile.FieldType)) ∈ TBL := tbl_4 146 rfl rfl
theorem m_867 : (Jvm.Cond.methodLink "BeltRowsLaw" (102 : Nat) ({ cls := "BeltRowsModel", name := "scanner", desc := "(III)I" } : Jvm.MethodName)) ∈ TBL := tbl_4 147 rfl rfl
theorem m_868 : (Jvm.Cond.instanceMethod ({ cls := "BeltRowsModel", name := "scanner", desc := "(III)I" } : Jvm.MethodName)) ∈ TBL := tbl_4 148 rfl rfl
theorem m_869 : (Jvm.Cond.selects "BeltRowsModel" ({ cls := "BeltRowsModel", name := "scanner", desc := "(III)I" } : Jvm.MethodName) ({ cls := "BeltRowsModel", name := "scanner", desc := "(III)I" } : Jvm.MethodName)) ∈ TBL := tbl_4 149 rfl rfl
theorem m_870 : (Jvm.Cond.code ({ cls := "BeltRowsModel", name := "scanner", desc := "(III)I" } : Jvm.MethodName) prog_8_method_10_code (4 : Nat) (Option.some Jvm.ClassFile.FieldType.int)) ∈ TBL := tbl_4 150 rfl rfl
theorem m_871 : (Jvm.Cond.methodLink "BeltRowsLaw" (105 : Nat) ({ cls := "BeltRowsModel", name := "item", desc := "(II)I" } : Jvm.MethodName)) ∈ TBL := tbl_4 151 rfl rfl
theorem m_872 : (Jvm.Cond.instanceMethod ({ cls := "BeltRowsModel", name := "item", desc := "(II)I" } : Jvm.MethodName)) ∈ TBL := tbl_4 152 rfl rfl
theorem m_873 : (Jvm.Cond.selects "BeltRowsModel" ({ cls := "BeltRowsModel", name := "item", desc := "(II)I" } : Jvm.MethodName) ({ cls := "BeltRowsModel", name := "item", desc := "(II)I" } : Jvm.MethodName)) ∈ TBL := tbl_4 153 rfl rfl
theorem m_874 : (Jvm.Cond.code ({ cls := "BeltRowsModel", name := "item", desc := "(II)I" } : Jvm.MethodName) prog_8_method_17_code (3 : Nat) (Option.some Jvm.ClassFile.FieldType.int)) ∈ TBL := tbl_4 154 rfl rfl
theorem m_875 : (Jvm.Cond.methodLink "BeltRowsModel" (112 : Nat) ({ cls := "BeltRowsModel", name := "missing", desc := "(I)I" } : Jvm.MethodName)) ∈ TBL := tbl_4 155 rfl rfl
theorem m_877 : (Jvm.Cond.instanceMethod ({ cls := "BeltRowsModel", name := "missing", desc := "(I)I" } : Jvm.MethodName)) ∈ TBL := tbl_4 157 rfl rfl
theorem m_878 : (Jvm.Cond.code ({ cls := "BeltRowsModel", name := "missing", desc := "(I)I" } : Jvm.MethodName) prog_8_method_13_code (2 : Nat) (Option.some Jvm.ClassFile.FieldType.int)) ∈ TBL := tbl_4 158 rfl rfl
theorem m_879 : (Jvm.Cond.methodLink "BeltRowsModel" (102 : Nat) ({ cls := "BeltRowsModel", name := "last", desc := "(I)I" } : Jvm.MethodName)) ∈ TBL := tbl_4 159 rfl rfl
theorem m_881 : (Jvm.Cond.instanceMethod ({ cls := "BeltRowsModel", name := "last", desc := "(I)I" } : Jvm.MethodName)) ∈ TBL := tbl_4 161 rfl rfl
theorem m_882 : (Jvm.Cond.code ({ cls := "BeltRowsModel", name := "last", desc := "(I)I" } : Jvm.MethodName) prog_8_method_11_code (2 : Nat) (Option.some Jvm.ClassFile.FieldType.int)) ∈ TBL := tbl_4 162 rfl rfl
theorem m_883 : (Jvm.Cond.methodLink "BeltRowsModel" (106 : Nat) ({ cls := "BeltRowsModel", name := "rear", desc := "(I)I" } : Jvm.MethodName)) ∈ TBL := tbl_4 163 rfl rfl
theorem m_885 : (Jvm.Cond.instanceMethod ({ cls := "BeltRowsModel", name := "rear", desc := "(I)I" } : Jvm.MethodName)) ∈ TBL := tbl_4 165 rfl rfl
theorem m_886 : (Jvm.Cond.code ({ cls := "BeltRowsModel", name := "rear", desc := "(I)I" } : Jvm.MethodName) prog_8_method_12_code (2 : Nat) (Option.some Jvm.ClassFile.FieldType.int)) ∈ TBL := tbl_4 166 rfl rfl
theorem m_887 : (Jvm.Cond.methodLink "BeltRowsModel" (118 : Nat) ({ cls := "BeltRowsModel", name := "come", desc := "(II)V" } : Jvm.MethodName)) ∈ TBL := tbl_4 167 rfl rfl
theorem m_889 : (Jvm.Cond.instanceMethod ({ cls := "BeltRowsModel", name := "come", desc := "(II)V" } : Jvm.MethodName)) ∈ TBL := tbl_4 169 rfl rfl
theorem m_890 : (Jvm.Cond.code ({ cls := "BeltRowsModel", name := "come", desc := "(II)V" } : Jvm.MethodName) prog_8_method_14_code (3 : Nat) (Option.none : Option Jvm.ClassFile.FieldType)) ∈ TBL := tbl_4 170 rfl rfl
theorem m_891 : (Jvm.Cond.methodLink "BeltRowsLaw" (108 : Nat) ({ cls := "BeltRowsModel", name := "divert", desc := "(II)I" } : Jvm.MethodName)) ∈ TBL := tbl_4 171 rfl rfl
theorem m_892 : (Jvm.Cond.instanceMethod ({ cls := "BeltRowsModel", name := "divert", desc := "(II)I" } : Jvm.MethodName)) ∈ TBL := tbl_4 172 rfl rfl
theorem m_893 : (Jvm.Cond.selects "BeltRowsModel" ({ cls := "BeltRowsModel", name := "divert", desc := "(II)I" } : Jvm.MethodName) ({ cls := "BeltRowsModel", name := "divert", desc := "(II)I" } : Jvm.MethodName)) ∈ TBL := tbl_4 173 rfl rfl
theorem m_894 : (Jvm.Cond.code ({ cls := "BeltRowsModel", name := "divert", desc := "(II)I" } : Jvm.MethodName) prog_8_method_18_code (4 : Nat) (Option.some Jvm.ClassFile.FieldType.int)) ∈ TBL := tbl_4 174 rfl rfl
theorem m_895 : (Jvm.Cond.methodLink "BeltRowsModel" (122 : Nat) ({ cls := "BeltRowsModel", name := "isItem", desc := "(I)Z" } : Jvm.MethodName)) ∈ TBL := tbl_4 175 rfl rfl
theorem m_897 : (Jvm.Cond.instanceMethod ({ cls := "BeltRowsModel", name := "isItem", desc := "(I)Z" } : Jvm.MethodName)) ∈ TBL := tbl_4 177 rfl rfl
theorem m_898 : (Jvm.Cond.code ({ cls := "BeltRowsModel", name := "isItem", desc := "(I)Z" } : Jvm.MethodName) prog_8_method_5_code (2 : Nat) (Option.some Jvm.ClassFile.FieldType.boolean)) ∈ TBL := tbl_4 178 rfl rfl
theorem m_899 : (Jvm.Cond.methodLink "BeltRowsLaw" (112 : Nat) ({ cls := "BeltRowsModel", name := "step", desc := "(I)I" } : Jvm.MethodName)) ∈ TBL := tbl_4 179 rfl rfl
theorem m_900 : (Jvm.Cond.instanceMethod ({ cls := "BeltRowsModel", name := "step", desc := "(I)I" } : Jvm.MethodName)) ∈ TBL := tbl_4 180 rfl rfl
theorem m_901 : (Jvm.Cond.selects "BeltRowsModel" ({ cls := "BeltRowsModel", name := "step", desc := "(I)I" } : Jvm.MethodName) ({ cls := "BeltRowsModel", name := "step", desc := "(I)I" } : Jvm.MethodName)) ∈ TBL := tbl_4 181 rfl rfl
theorem m_902 : (Jvm.Cond.code ({ cls := "BeltRowsModel", name := "step", desc := "(I)I" } : Jvm.MethodName) prog_8_method_25_code (5 : Nat) (Option.some Jvm.ClassFile.FieldType.int)) ∈ TBL := tbl_4 182 rfl rfl
theorem m_903 : (Jvm.Cond.methodLink "BeltRowsModel" (153 : Nat) ({ cls := "BeltRowsModel", name := "readDue", desc := "()V" } : Jvm.MethodName)) ∈ TBL := tbl_4 183 rfl rfl
theorem m_905 : (Jvm.Cond.instanceMethod ({ cls := "BeltRowsModel", name := "readDue", desc := "()V" } : Jvm.MethodName)) ∈ TBL := tbl_4 185 rfl rfl
theorem m_906 : (Jvm.Cond.code ({ cls := "BeltRowsModel", name := "readDue", desc := "()V" } : Jvm.MethodName) prog_8_method_20_code (3 : Nat) (Option.none : Option Jvm.ClassFile.FieldType)) ∈ TBL := tbl_4 186 rfl rfl
theorem m_907 : (Jvm.Cond.constantLong "BeltRowsModel" (131 : Nat) (255 : Int64)) ∈ TBL := tbl_4 187 rfl rfl
theorem m_908 : (Jvm.Cond.methodLink "BeltRowsModel" (133 : Nat) ({ cls := "BeltRowsModel", name := "tell", desc := "(III)V" } : Jvm.MethodName)) ∈ TBL := tbl_4 188 rfl rfl
theorem m_910 : (Jvm.Cond.instanceMethod ({ cls := "BeltRowsModel", name := "tell", desc := "(III)V" } : Jvm.MethodName)) ∈ TBL := tbl_4 190 rfl rfl
theorem m_911 : (Jvm.Cond.code ({ cls := "BeltRowsModel", name := "tell", desc := "(III)V" } : Jvm.MethodName) prog_8_method_19_code (4 : Nat) (Option.none : Option Jvm.ClassFile.FieldType)) ∈ TBL := tbl_4 191 rfl rfl
theorem m_912 : (Jvm.Cond.methodLink "BeltRowsModel" (156 : Nat) ({ cls := "BeltRowsModel", name := "exchange", desc := "(I)V" } : Jvm.MethodName)) ∈ TBL := tbl_4 192 rfl rfl
theorem m_914 : (Jvm.Cond.instanceMethod ({ cls := "BeltRowsModel", name := "exchange", desc := "(I)V" } : Jvm.MethodName)) ∈ TBL := tbl_4 194 rfl rfl
theorem m_915 : (Jvm.Cond.code ({ cls := "BeltRowsModel", name := "exchange", desc := "(I)V" } : Jvm.MethodName) prog_8_method_23_code (7 : Nat) (Option.none : Option Jvm.ClassFile.FieldType)) ∈ TBL := tbl_4 195 rfl rfl
theorem m_916 : (Jvm.Cond.methodLink "BeltRowsModel" (137 : Nat) ({ cls := "BeltRowsModel", name := "atEnd", desc := "(I)I" } : Jvm.MethodName)) ∈ TBL := tbl_4 196 rfl rfl
theorem m_918 : (Jvm.Cond.instanceMethod ({ cls := "BeltRowsModel", name := "atEnd", desc := "(I)I" } : Jvm.MethodName)) ∈ TBL := tbl_4 198 rfl rfl
theorem m_919 : (Jvm.Cond.code ({ cls := "BeltRowsModel", name := "atEnd", desc := "(I)I" } : Jvm.MethodName) prog_8_method_21_code (3 : Nat) (Option.some Jvm.ClassFile.FieldType.int)) ∈ TBL := tbl_4 199 rfl rfl
theorem m_920 : (Jvm.Cond.methodLink "BeltRowsModel" (140 : Nat) ({ cls := "BeltRowsModel", name := "goesBy", desc := "(I)I" } : Jvm.MethodName)) ∈ TBL := tbl_4 200 rfl rfl
theorem m_922 : (Jvm.Cond.instanceMethod ({ cls := "BeltRowsModel", name := "goesBy", desc := "(I)I" } : Jvm.MethodName)) ∈ TBL := tbl_4 202 rfl rfl
theorem m_923 : (Jvm.Cond.code ({ cls := "BeltRowsModel", name := "goesBy", desc := "(I)I" } : Jvm.MethodName) prog_8_method_22_code (2 : Nat) (Option.some Jvm.ClassFile.FieldType.int)) ∈ TBL := tbl_4 203 rfl rfl
theorem m_924 : (Jvm.Cond.methodLink "BeltRowsModel" (143 : Nat) ({ cls := "BeltRowsModel", name := "leave", desc := "(I)V" } : Jvm.MethodName)) ∈ TBL := tbl_4 204 rfl rfl
theorem m_926 : (Jvm.Cond.instanceMethod ({ cls := "BeltRowsModel", name := "leave", desc := "(I)V" } : Jvm.MethodName)) ∈ TBL := tbl_4 206 rfl rfl
theorem m_927 : (Jvm.Cond.code ({ cls := "BeltRowsModel", name := "leave", desc := "(I)V" } : Jvm.MethodName) prog_8_method_16_code (5 : Nat) (Option.none : Option Jvm.ClassFile.FieldType)) ∈ TBL := tbl_4 207 rfl rfl
theorem m_928 : (Jvm.Cond.methodLink "BeltRowsModel" (109 : Nat) ({ cls := "BeltRowsModel", name := "indexOf", desc := "(I)I" } : Jvm.MethodName)) ∈ TBL := tbl_4 208 rfl rfl
theorem m_930 : (Jvm.Cond.instanceMethod ({ cls := "BeltRowsModel", name := "indexOf", desc := "(I)I" } : Jvm.MethodName)) ∈ TBL := tbl_4 210 rfl rfl
theorem m_931 : (Jvm.Cond.code ({ cls := "BeltRowsModel", name := "indexOf", desc := "(I)I" } : Jvm.MethodName) prog_8_method_15_code (3 : Nat) (Option.some Jvm.ClassFile.FieldType.int)) ∈ TBL := tbl_4 211 rfl rfl
theorem m_932 : (Jvm.Cond.methodLink "BeltRowsModel" (159 : Nat) ({ cls := "BeltRowsModel", name := "move", desc := "(I)V" } : Jvm.MethodName)) ∈ TBL := tbl_4 212 rfl rfl
theorem m_934 : (Jvm.Cond.instanceMethod ({ cls := "BeltRowsModel", name := "move", desc := "(I)V" } : Jvm.MethodName)) ∈ TBL := tbl_4 214 rfl rfl
theorem m_935 : (Jvm.Cond.code ({ cls := "BeltRowsModel", name := "move", desc := "(I)V" } : Jvm.MethodName) prog_8_method_24_code (7 : Nat) (Option.none : Option Jvm.ClassFile.FieldType)) ∈ TBL := tbl_4 215 rfl rfl
theorem m_936 : (Jvm.Cond.methodLink "BeltRowsLaw" (115 : Nat) ({ cls := "BeltRowsModel", name := "edge", desc := "(II)I" } : Jvm.MethodName)) ∈ TBL := tbl_4 216 rfl rfl
theorem m_937 : (Jvm.Cond.instanceMethod ({ cls := "BeltRowsModel", name := "edge", desc := "(II)I" } : Jvm.MethodName)) ∈ TBL := tbl_4 217 rfl rfl
theorem m_938 : (Jvm.Cond.selects "BeltRowsModel" ({ cls := "BeltRowsModel", name := "edge", desc := "(II)I" } : Jvm.MethodName) ({ cls := "BeltRowsModel", name := "edge", desc := "(II)I" } : Jvm.MethodName)) ∈ TBL := tbl_4 218 rfl rfl
theorem m_939 : (Jvm.Cond.code ({ cls := "BeltRowsModel", name := "edge", desc := "(II)I" } : Jvm.MethodName) prog_8_method_26_code (3 : Nat) (Option.some Jvm.ClassFile.FieldType.int)) ∈ TBL := tbl_4 219 rfl rfl
theorem m_940 : (Jvm.Cond.constantLong "BeltRowsModel" (162 : Nat) (65535 : Int64)) ∈ TBL := tbl_4 220 rfl rfl
theorem m_941 : (Jvm.Cond.methodLink "BeltRowsLaw" (118 : Nat) ({ cls := "BeltRowsModel", name := "slip", desc := "(II)I" } : Jvm.MethodName)) ∈ TBL := tbl_4 221 rfl rfl
theorem m_942 : (Jvm.Cond.instanceMethod ({ cls := "BeltRowsModel", name := "slip", desc := "(II)I" } : Jvm.MethodName)) ∈ TBL := tbl_4 222 rfl rfl
theorem m_943 : (Jvm.Cond.selects "BeltRowsModel" ({ cls := "BeltRowsModel", name := "slip", desc := "(II)I" } : Jvm.MethodName) ({ cls := "BeltRowsModel", name := "slip", desc := "(II)I" } : Jvm.MethodName)) ∈ TBL := tbl_4 223 rfl rfl
theorem m_944 : (Jvm.Cond.code ({ cls := "BeltRowsModel", name := "slip", desc := "(II)I" } : Jvm.MethodName) prog_8_method_27_code (4 : Nat) (Option.some Jvm.ClassFile.FieldType.int)) ∈ TBL := tbl_4 224 rfl rfl
theorem m_945 : (Jvm.Cond.methodLink "BeltRowsLaw" (121 : Nat) ({ cls := "BeltRowsModel", name := "take", desc := "(I)V" } : Jvm.MethodName)) ∈ TBL := tbl_4 225 rfl rfl
theorem m_946 : (Jvm.Cond.instanceMethod ({ cls := "BeltRowsModel", name := "take", desc := "(I)V" } : Jvm.MethodName)) ∈ TBL := tbl_4 226 rfl rfl
theorem m_947 : (Jvm.Cond.selects "BeltRowsModel" ({ cls := "BeltRowsModel", name := "take", desc := "(I)V" } : Jvm.MethodName) ({ cls := "BeltRowsModel", name := "take", desc := "(I)V" } : Jvm.MethodName)) ∈ TBL := tbl_4 227 rfl rfl
theorem m_948 : (Jvm.Cond.code ({ cls := "BeltRowsModel", name := "take", desc := "(I)V" } : Jvm.MethodName) prog_8_method_28_code (2 : Nat) (Option.none : Option Jvm.ClassFile.FieldType)) ∈ TBL := tbl_4 228 rfl rfl
theorem m_949 : (Jvm.Cond.methodLink "BeltRowsLaw" (124 : Nat) ({ cls := "BeltRowsModel", name := "clean", desc := "(I)I" } : Jvm.MethodName)) ∈ TBL := tbl_4 229 rfl rfl
theorem m_950 : (Jvm.Cond.instanceMethod ({ cls := "BeltRowsModel", name := "clean", desc := "(I)I" } : Jvm.MethodName)) ∈ TBL := tbl_4 230 rfl rfl
theorem m_951 : (Jvm.Cond.selects "BeltRowsModel" ({ cls := "BeltRowsModel", name := "clean", desc := "(I)I" } : Jvm.MethodName) ({ cls := "BeltRowsModel", name := "clean", desc := "(I)I" } : Jvm.MethodName)) ∈ TBL := tbl_4 231 rfl rfl
theorem m_952 : (Jvm.Cond.code ({ cls := "BeltRowsModel", name := "clean", desc := "(I)I" } : Jvm.MethodName) prog_8_method_29_code (4 : Nat) (Option.some Jvm.ClassFile.FieldType.int)) ∈ TBL := tbl_4 232 rfl rfl
theorem m_953 : (Jvm.Cond.methodLink "BeltRowsLaw" (127 : Nat) ({ cls := "BeltRowsModel", name := "gap", desc := "(II)I" } : Jvm.MethodName)) ∈ TBL := tbl_4 233 rfl rfl
theorem m_954 : (Jvm.Cond.instanceMethod ({ cls := "BeltRowsModel", name := "gap", desc := "(II)I" } : Jvm.MethodName)) ∈ TBL := tbl_4 234 rfl rfl
theorem m_955 : (Jvm.Cond.selects "BeltRowsModel" ({ cls := "BeltRowsModel", name := "gap", desc := "(II)I" } : Jvm.MethodName) ({ cls := "BeltRowsModel", name := "gap", desc := "(II)I" } : Jvm.MethodName)) ∈ TBL := tbl_4 235 rfl rfl
theorem m_956 : (Jvm.Cond.code ({ cls := "BeltRowsModel", name := "gap", desc := "(II)I" } : Jvm.MethodName) prog_8_method_30_code (3 : Nat) (Option.some Jvm.ClassFile.FieldType.int)) ∈ TBL := tbl_4 236 rfl rfl
theorem m_957 : (Jvm.Cond.methodLink "BeltRowsLaw" (130 : Nat) ({ cls := "BeltRowsModel", name := "told", desc := "(II)I" } : Jvm.MethodName)) ∈ TBL := tbl_4 237 rfl rfl
theorem m_958 : (Jvm.Cond.instanceMethod ({ cls := "BeltRowsModel", name := "told", desc := "(II)I" } : Jvm.MethodName)) ∈ TBL := tbl_4 238 rfl rfl
theorem m_959 : (Jvm.Cond.selects "BeltRowsModel" ({ cls := "BeltRowsModel", name := "told", desc := "(II)I" } : Jvm.MethodName) ({ cls := "BeltRowsModel", name := "told", desc := "(II)I" } : Jvm.MethodName)) ∈ TBL := tbl_4 239 rfl rfl
theorem m_960 : (Jvm.Cond.code ({ cls := "BeltRowsModel", name := "told", desc := "(II)I" } : Jvm.MethodName) prog_8_method_31_code (3 : Nat) (Option.some Jvm.ClassFile.FieldType.int)) ∈ TBL := tbl_5 0 rfl rfl
theorem m_961 : (Jvm.Cond.methodLink "BeltRowsLaw" (133 : Nat) ({ cls := "BeltRowsModel", name := "known", desc := "(II)I" } : Jvm.MethodName)) ∈ TBL := tbl_5 1 rfl rfl
theorem m_962 : (Jvm.Cond.instanceMethod ({ cls := "BeltRowsModel", name := "known", desc := "(II)I" } : Jvm.MethodName)) ∈ TBL := tbl_5 2 rfl rfl
theorem m_963 : (Jvm.Cond.selects "BeltRowsModel" ({ cls := "BeltRowsModel", name := "known", desc := "(II)I" } : Jvm.MethodName) ({ cls := "BeltRowsModel", name := "known", desc := "(II)I" } : Jvm.MethodName)) ∈ TBL := tbl_5 3 rfl rfl
theorem m_964 : (Jvm.Cond.code ({ cls := "BeltRowsModel", name := "known", desc := "(II)I" } : Jvm.MethodName) prog_8_method_32_code (3 : Nat) (Option.some Jvm.ClassFile.FieldType.int)) ∈ TBL := tbl_5 4 rfl rfl
theorem m_965 : (Jvm.Cond.methodLink "BeltRowsLaw" (136 : Nat) ({ cls := "BeltRowsModel", name := "order", desc := "(I)I" } : Jvm.MethodName)) ∈ TBL := tbl_5 5 rfl rfl
theorem m_966 : (Jvm.Cond.instanceMethod ({ cls := "BeltRowsModel", name := "order", desc := "(I)I" } : Jvm.MethodName)) ∈ TBL := tbl_5 6 rfl rfl
theorem m_967 : (Jvm.Cond.selects "BeltRowsModel" ({ cls := "BeltRowsModel", name := "order", desc := "(I)I" } : Jvm.MethodName) ({ cls := "BeltRowsModel", name := "order", desc := "(I)I" } : Jvm.MethodName)) ∈ TBL := tbl_5 7 rfl rfl
theorem m_968 : (Jvm.Cond.code ({ cls := "BeltRowsModel", name := "order", desc := "(I)I" } : Jvm.MethodName) prog_8_method_33_code (2 : Nat) (Option.some Jvm.ClassFile.FieldType.int)) ∈ TBL := tbl_5 8 rfl rfl
theorem m_969 : (Jvm.Cond.methodLink "BeltRowsLaw" (140 : Nat) ({ cls := "BeltRowsModel", name := "mean", desc := "()I" } : Jvm.MethodName)) ∈ TBL := tbl_5 9 rfl rfl
theorem m_970 : (Jvm.Cond.instanceMethod ({ cls := "BeltRowsModel", name := "mean", desc := "()I" } : Jvm.MethodName)) ∈ TBL := tbl_5 10 rfl rfl
theorem m_971 : (Jvm.Cond.selects "BeltRowsModel" ({ cls := "BeltRowsModel", name := "mean", desc := "()I" } : Jvm.MethodName) ({ cls := "BeltRowsModel", name := "mean", desc := "()I" } : Jvm.MethodName)) ∈ TBL := tbl_5 11 rfl rfl
theorem m_972 : (Jvm.Cond.code ({ cls := "BeltRowsModel", name := "mean", desc := "()I" } : Jvm.MethodName) prog_8_method_34_code (1 : Nat) (Option.some Jvm.ClassFile.FieldType.int)) ∈ TBL := tbl_5 12 rfl rfl
theorem m_973 : (Jvm.Cond.methodLink "BeltRowsLaw" (144 : Nat) ({ cls := "BeltRowsModel", name := "count", desc := "(I)I" } : Jvm.MethodName)) ∈ TBL := tbl_5 13 rfl rfl
theorem m_974 : (Jvm.Cond.instanceMethod ({ cls := "BeltRowsModel", name := "count", desc := "(I)I" } : Jvm.MethodName)) ∈ TBL := tbl_5 14 rfl rfl
theorem m_975 : (Jvm.Cond.selects "BeltRowsModel" ({ cls := "BeltRowsModel", name := "count", desc := "(I)I" } : Jvm.MethodName) ({ cls := "BeltRowsModel", name := "count", desc := "(I)I" } : Jvm.MethodName)) ∈ TBL := tbl_5 15 rfl rfl
theorem m_976 : (Jvm.Cond.code ({ cls := "BeltRowsModel", name := "count", desc := "(I)I" } : Jvm.MethodName) prog_8_method_35_code (4 : Nat) (Option.some Jvm.ClassFile.FieldType.int)) ∈ TBL := tbl_5 16 rfl rfl
theorem m_983 : (Jvm.Cond.selects "[Ljava/lang/Object;" ({ cls := "java/lang/Object", name := "getClass", desc := "()Ljava/lang/Class;" } : Jvm.MethodName) ({ cls := "java/lang/Object", name := "getClass", desc := "()Ljava/lang/Class;" } : Jvm.MethodName)) ∈ TBL := tbl_5 23 rfl rfl
def T_Bt : u_T := fun k => match k with
  | 0 => ("BeltRows$Belt", "number", "I", true)
  | 1 => ("BeltRows$Belt", "length", "I", true)
  | 2 => ("BeltRows$Belt", "speed", "I", false)
  | 3 => ("BeltRows$Belt", "runs", "Z", false)
  | 4 => ("BeltRows$Belt", "front", "LBeltRows$Item;", false)
  | 5 => ("BeltRows$Belt", "last", "LBeltRows$Item;", false)
  | 6 => ("BeltRows$Belt", "size", "I", false)
  | 7 => ("BeltRows$Belt", "wayZero", "LBeltRows$Way;", true)
  | _ => ("BeltRows$Belt", "wayOne", "LBeltRows$Way;", true)
def y_Bt : Nat → FieldType := fun k => match k with
  | 0 => .int
  | 1 => .int
  | 2 => .int
  | 3 => .boolean
  | 4 => .object "BeltRows$Item"
  | 5 => .object "BeltRows$Item"
  | 6 => .int
  | 7 => .object "BeltRows$Way"
  | _ => .object "BeltRows$Way"
theorem nm_Bt : ∀ a, a < 9 → ∀ b, b < 9 → a ≠ b → (T_Bt a).2.1 ≠ (T_Bt b).2.1 := by decide +kernel
theorem yk_Bt : ∀ k, k < 9 → parseFieldDescriptor (T_Bt k).2.2.1 = some (y_Bt k) := by decide +kernel
theorem in_Bt : ∀ w ∈ u_ws "BeltRows$Belt" T_Bt 9, w ∈ TBL := by
  intro w hw
  obtain ⟨k, hk, rfl⟩ := List.mem_map.mp hw
  have hk := List.mem_range.mp hk
  match k, hk with
  | 0, _ => exact m_255
  | 1, _ => exact m_257
  | 2, _ => exact m_259
  | 3, _ => exact m_261
  | 4, _ => exact m_263
  | 5, _ => exact m_265
  | 6, _ => exact m_267
  | 7, _ => exact m_269
  | 8, _ => exact m_271
  | k + 9, h => exact absurd h (by omega)
def T_Ed : u_T := fun k => match k with
  | 0 => ("BeltRows$Edge", "second", "I", true)
  | 1 => ("BeltRows$Edge", "kind", "I", true)
  | 2 => ("BeltRows$Edge", "item", "I", true)
  | _ => ("BeltRows$Edge", "where", "I", true)
def y_Ed : Nat → FieldType := fun k => match k with
  | 0 => .int
  | 1 => .int
  | 2 => .int
  | _ => .int
theorem nm_Ed : ∀ a, a < 4 → ∀ b, b < 4 → a ≠ b → (T_Ed a).2.1 ≠ (T_Ed b).2.1 := by decide +kernel
theorem yk_Ed : ∀ k, k < 4 → parseFieldDescriptor (T_Ed k).2.2.1 = some (y_Ed k) := by decide +kernel
theorem in_Ed : ∀ w ∈ u_ws "BeltRows$Edge" T_Ed 4, w ∈ TBL := by
  intro w hw
  obtain ⟨k, hk, rfl⟩ := List.mem_map.mp hw
  have hk := List.mem_range.mp hk
  match k, hk with
  | 0, _ => exact m_602
  | 1, _ => exact m_604
  | 2, _ => exact m_606
  | 3, _ => exact m_608
  | k + 4, h => exact absurd h (by omega)
def T_It : u_T := fun k => match k with
  | 0 => ("BeltRows$Item", "number", "I", true)
  | 1 => ("BeltRows$Item", "length", "I", true)
  | 2 => ("BeltRows$Item", "putAt", "I", true)
  | 3 => ("BeltRows$Item", "belt", "LBeltRows$Belt;", false)
  | 4 => ("BeltRows$Item", "ahead", "LBeltRows$Item;", false)
  | 5 => ("BeltRows$Item", "behind", "LBeltRows$Item;", false)
  | 6 => ("BeltRows$Item", "state", "I", false)
  | 7 => ("BeltRows$Item", "place", "I", false)
  | 8 => ("BeltRows$Item", "expected", "I", false)
  | 9 => ("BeltRows$Item", "way", "I", false)
  | _ => ("BeltRows$Item", "wasTold", "Z", false)
def y_It : Nat → FieldType := fun k => match k with
  | 0 => .int
  | 1 => .int
  | 2 => .int
  | 3 => .object "BeltRows$Belt"
  | 4 => .object "BeltRows$Item"
  | 5 => .object "BeltRows$Item"
  | 6 => .int
  | 7 => .int
  | 8 => .int
  | 9 => .int
  | _ => .boolean
theorem nm_It : ∀ a, a < 11 → ∀ b, b < 11 → a ≠ b → (T_It a).2.1 ≠ (T_It b).2.1 := by decide +kernel
theorem yk_It : ∀ k, k < 11 → parseFieldDescriptor (T_It k).2.2.1 = some (y_It k) := by decide +kernel
theorem in_It : ∀ w ∈ u_ws "BeltRows$Item" T_It 11, w ∈ TBL := by
  intro w hw
  obtain ⟨k, hk, rfl⟩ := List.mem_map.mp hw
  have hk := List.mem_range.mp hk
  match k, hk with
  | 0, _ => exact m_468
  | 1, _ => exact m_470
  | 2, _ => exact m_472
  | 3, _ => exact m_474
  | 4, _ => exact m_476
  | 5, _ => exact m_478
  | 6, _ => exact m_480
  | 7, _ => exact m_482
  | 8, _ => exact m_484
  | 9, _ => exact m_486
  | 10, _ => exact m_488
  | k + 11, h => exact absurd h (by omega)
def T_Sc : u_T := fun k => match k with
  | 0 => ("BeltRows$Scanner", "number", "I", true)
  | 1 => ("BeltRows$Scanner", "belt", "LBeltRows$Belt;", true)
  | 2 => ("BeltRows$Scanner", "place", "I", true)
  | _ => ("BeltRows$Scanner", "delay", "I", true)
def y_Sc : Nat → FieldType := fun k => match k with
  | 0 => .int
  | 1 => .object "BeltRows$Belt"
  | 2 => .int
  | _ => .int
theorem nm_Sc : ∀ a, a < 4 → ∀ b, b < 4 → a ≠ b → (T_Sc a).2.1 ≠ (T_Sc b).2.1 := by decide +kernel
theorem yk_Sc : ∀ k, k < 4 → parseFieldDescriptor (T_Sc k).2.2.1 = some (y_Sc k) := by decide +kernel
theorem in_Sc : ∀ w ∈ u_ws "BeltRows$Scanner" T_Sc 4, w ∈ TBL := by
  intro w hw
  obtain ⟨k, hk, rfl⟩ := List.mem_map.mp hw
  have hk := List.mem_range.mp hk
  match k, hk with
  | 0, _ => exact m_411
  | 1, _ => exact m_413
  | 2, _ => exact m_415
  | 3, _ => exact m_417
  | k + 4, h => exact absurd h (by omega)
def T_Wy : u_T := fun k => match k with
  | 0 => ("BeltRows$Way", "next", "LBeltRows$Belt;", false)
  | 1 => ("BeltRows$Way", "share", "I", false)
  | _ => ("BeltRows$Way", "went", "I", false)
def y_Wy : Nat → FieldType := fun k => match k with
  | 0 => .object "BeltRows$Belt"
  | 1 => .int
  | _ => .int
theorem nm_Wy : ∀ a, a < 3 → ∀ b, b < 3 → a ≠ b → (T_Wy a).2.1 ≠ (T_Wy b).2.1 := by decide +kernel
theorem yk_Wy : ∀ k, k < 3 → parseFieldDescriptor (T_Wy k).2.2.1 = some (y_Wy k) := by decide +kernel
theorem in_Wy : ∀ w ∈ u_ws "BeltRows$Way" T_Wy 3, w ∈ TBL := by
  intro w hw
  obtain ⟨k, hk, rfl⟩ := List.mem_map.mp hw
  have hk := List.mem_range.mp hk
  match k, hk with
  | 0, _ => exact m_229
  | 1, _ => exact m_231
  | 2, _ => exact m_233
  | k + 3, h => exact absurd h (by omega)
def T_Br : u_T := fun k => match k with
  | 0 => ("BeltRows", "belts", "Ljava/util/ArrayList;", true)
  | 1 => ("BeltRows", "items", "Ljava/util/ArrayList;", true)
  | 2 => ("BeltRows", "scanners", "Ljava/util/ArrayList;", true)
  | 3 => ("BeltRows", "edges", "Ljava/util/ArrayList;", true)
  | 4 => ("BeltRows", "waiting", "Ljava/util/ArrayList;", true)
  | 5 => ("BeltRows", "gone", "Ljava/util/ArrayList;", true)
  | 6 => ("BeltRows", "leastGap", "I", false)
  | 7 => ("BeltRows", "time", "I", false)
  | _ => ("BeltRows", "secondsOfGone", "I", false)
def y_Br : Nat → FieldType := fun k => match k with
  | 0 => .object "java/util/ArrayList"
  | 1 => .object "java/util/ArrayList"
  | 2 => .object "java/util/ArrayList"
  | 3 => .object "java/util/ArrayList"
  | 4 => .object "java/util/ArrayList"
  | 5 => .object "java/util/ArrayList"
  | 6 => .int
  | 7 => .int
  | _ => .int
theorem nm_Br : ∀ a, a < 9 → ∀ b, b < 9 → a ≠ b → (T_Br a).2.1 ≠ (T_Br b).2.1 := by decide +kernel
theorem yk_Br : ∀ k, k < 9 → parseFieldDescriptor (T_Br k).2.2.1 = some (y_Br k) := by decide +kernel
theorem in_Br : ∀ w ∈ u_ws "BeltRows" T_Br 9, w ∈ TBL := by
  intro w hw
  obtain ⟨k, hk, rfl⟩ := List.mem_map.mp hw
  have hk := List.mem_range.mp hk
  match k, hk with
  | 0, _ => exact m_68
  | 1, _ => exact m_70
  | 2, _ => exact m_72
  | 3, _ => exact m_74
  | 4, _ => exact m_76
  | 5, _ => exact m_78
  | 6, _ => exact m_80
  | 7, _ => exact m_82
  | 8, _ => exact m_84
  | k + 9, h => exact absurd h (by omega)
def T_Mo : u_T := fun k => match k with
  | 0 => ("BeltRowsModel", "code", "I", false)
  | 1 => ("BeltRowsModel", "time", "I", false)
  | 2 => ("BeltRowsModel", "least", "I", false)
  | 3 => ("BeltRowsModel", "belts", "I", false)
  | 4 => ("BeltRowsModel", "length", "[I", true)
  | 5 => ("BeltRowsModel", "speed", "[I", true)
  | 6 => ("BeltRowsModel", "runs", "[Z", true)
  | 7 => ("BeltRowsModel", "next", "[I", true)
  | 8 => ("BeltRowsModel", "share", "[I", true)
  | 9 => ("BeltRowsModel", "went", "[I", true)
  | 10 => ("BeltRowsModel", "size", "[I", true)
  | 11 => ("BeltRowsModel", "row", "[I", true)
  | 12 => ("BeltRowsModel", "items", "I", false)
  | 13 => ("BeltRowsModel", "state", "[I", true)
  | 14 => ("BeltRowsModel", "belt", "[I", true)
  | 15 => ("BeltRowsModel", "place", "[I", true)
  | 16 => ("BeltRowsModel", "long0", "[I", true)
  | 17 => ("BeltRowsModel", "way", "[I", true)
  | 18 => ("BeltRowsModel", "wayTold", "[Z", true)
  | 19 => ("BeltRowsModel", "expected", "[I", true)
  | 20 => ("BeltRowsModel", "put", "[I", true)
  | 21 => ("BeltRowsModel", "scanners", "I", false)
  | 22 => ("BeltRowsModel", "scanBelt", "[I", true)
  | 23 => ("BeltRowsModel", "scanPlace", "[I", true)
  | 24 => ("BeltRowsModel", "delay", "[I", true)
  | 25 => ("BeltRowsModel", "waiting", "I", false)
  | 26 => ("BeltRowsModel", "waits", "[J", true)
  | 27 => ("BeltRowsModel", "edges", "I", false)
  | 28 => ("BeltRowsModel", "told", "[J", true)
  | 29 => ("BeltRowsModel", "outs", "I", false)
  | 30 => ("BeltRowsModel", "seconds", "I", false)
  | _ => ("BeltRowsModel", "outRow", "[I", true)
def y_Mo : Nat → FieldType := fun k => match k with
  | 0 => .int
  | 1 => .int
  | 2 => .int
  | 3 => .int
  | 4 => .array (.int)
  | 5 => .array (.int)
  | 6 => .array (.boolean)
  | 7 => .array (.int)
  | 8 => .array (.int)
  | 9 => .array (.int)
  | 10 => .array (.int)
  | 11 => .array (.int)
  | 12 => .int
  | 13 => .array (.int)
  | 14 => .array (.int)
  | 15 => .array (.int)
  | 16 => .array (.int)
  | 17 => .array (.int)
  | 18 => .array (.boolean)
  | 19 => .array (.int)
  | 20 => .array (.int)
  | 21 => .int
  | 22 => .array (.int)
  | 23 => .array (.int)
  | 24 => .array (.int)
  | 25 => .int
  | 26 => .array (.long)
  | 27 => .int
  | 28 => .array (.long)
  | 29 => .int
  | 30 => .int
  | _ => .array (.int)
theorem nm_Mo : ∀ a, a < 32 → ∀ b, b < 32 → a ≠ b → (T_Mo a).2.1 ≠ (T_Mo b).2.1 := by decide +kernel
theorem yk_Mo : ∀ k, k < 32 → parseFieldDescriptor (T_Mo k).2.2.1 = some (y_Mo k) := by decide +kernel
theorem in_Mo : ∀ w ∈ u_ws "BeltRowsModel" T_Mo 32, w ∈ TBL := by
  intro w hw
  obtain ⟨k, hk, rfl⟩ := List.mem_map.mp hw
  have hk := List.mem_range.mp hk
  match k, hk with
  | 0, _ => exact m_776
  | 1, _ => exact m_778
  | 2, _ => exact m_780
  | 3, _ => exact m_782
  | 4, _ => exact m_784
  | 5, _ => exact m_786
  | 6, _ => exact m_788
  | 7, _ => exact m_790
  | 8, _ => exact m_792
  | 9, _ => exact m_794
  | 10, _ => exact m_796
  | 11, _ => exact m_798
  | 12, _ => exact m_800
  | 13, _ => exact m_802
  | 14, _ => exact m_804
  | 15, _ => exact m_806
  | 16, _ => exact m_808
  | 17, _ => exact m_810
  | 18, _ => exact m_812
  | 19, _ => exact m_814
  | 20, _ => exact m_816
  | 21, _ => exact m_818
  | 22, _ => exact m_820
  | 23, _ => exact m_822
  | 24, _ => exact m_824
  | 25, _ => exact m_826
  | 26, _ => exact m_828
  | 27, _ => exact m_830
  | 28, _ => exact m_832
  | 29, _ => exact m_834
  | 30, _ => exact m_836
  | 31, _ => exact m_838
  | k + 32, h => exact absurd h (by omega)
def T_Al : u_T := fun k => match k with
  | 0 => ("java/util/AbstractList", "modCount", "I", false)
  | 1 => ("java/util/ArrayList", "elementData", "[Ljava/lang/Object;", false)
  | _ => ("java/util/ArrayList", "size", "I", false)
def y_Al : Nat → FieldType := fun k => match k with
  | 0 => .int
  | 1 => .array (.object "java/lang/Object")
  | _ => .int
theorem nm_Al : ∀ a, a < 3 → ∀ b, b < 3 → a ≠ b → (T_Al a).2.1 ≠ (T_Al b).2.1 := by decide +kernel
theorem yk_Al : ∀ k, k < 3 → parseFieldDescriptor (T_Al k).2.2.1 = some (y_Al k) := by decide +kernel
theorem in_Al : ∀ w ∈ u_ws "java/util/ArrayList" T_Al 3, w ∈ TBL := by
  intro w hw
  obtain ⟨k, hk, rfl⟩ := List.mem_map.mp hw
  have hk := List.mem_range.mp hk
  match k, hk with
  | 0, _ => exact m_56
  | 1, _ => exact m_52
  | 2, _ => exact m_54
  | k + 3, h => exact absurd h (by omega)
abbrev cls8 : List vw_C := [("BeltRows$Belt", T_Bt, 9), ("BeltRows$Edge", T_Ed, 4), ("BeltRows$Item", T_It, 11), ("BeltRows$Scanner", T_Sc, 4), ("BeltRows$Way", T_Wy, 3), ("BeltRows", T_Br, 9), ("BeltRowsModel", T_Mo, 32), ("java/util/ArrayList", T_Al, 3)]
def FTc : Nat → List Nat := fun k => match k with
  | 0 => [0, 0, 0, 0, 1, 1, 0, 1, 1]
  | 1 => [0, 0, 0, 0]
  | 2 => [0, 0, 0, 1, 1, 1, 0, 0, 0, 0, 0]
  | 3 => [0, 1, 0, 0]
  | 4 => [1, 0, 0]
  | 5 => [1, 1, 1, 1, 1, 1, 0, 0, 0]
  | 6 => [0, 0, 0, 0, 1, 1, 1, 1, 1, 1, 1, 1, 0, 1, 1, 1, 1, 1, 1, 1, 1, 0, 1, 1, 1, 0, 1, 0, 1, 0, 0, 1]
  | 7 => [0, 1, 0]
  | _ => []
