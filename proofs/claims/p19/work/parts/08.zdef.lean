/-! an object of each class as it is made; further words -/
theorem df_Bt : ∀ j, j < 9 → defaultValue (y_Bt j) = vp_V (bw_f (FTc 0) 0 (fun _ => 0) (fun _ => none) (fun _ => 0)) j := by
  intro j hj
  match j, hj with
  | 0, _ => rfl
  | 1, _ => rfl
  | 2, _ => rfl
  | 3, _ => rfl
  | 4, _ => rfl
  | 5, _ => rfl
  | 6, _ => rfl
  | 7, _ => rfl
  | 8, _ => rfl
  | j + 9, h => exact absurd h (by omega)
theorem df_Ed : ∀ j, j < 4 → defaultValue (y_Ed j) = vp_V (bw_f (FTc 1) 0 (fun _ => 0) (fun _ => none) (fun _ => 0)) j := by
  intro j hj
  match j, hj with
  | 0, _ => rfl
  | 1, _ => rfl
  | 2, _ => rfl
  | 3, _ => rfl
  | j + 4, h => exact absurd h (by omega)
theorem df_It : ∀ j, j < 11 → defaultValue (y_It j) = vp_V (bw_f (FTc 2) 0 (fun _ => 0) (fun _ => none) (fun _ => 0)) j := by
  intro j hj
  match j, hj with
  | 0, _ => rfl
  | 1, _ => rfl
  | 2, _ => rfl
  | 3, _ => rfl
  | 4, _ => rfl
  | 5, _ => rfl
  | 6, _ => rfl
  | 7, _ => rfl
  | 8, _ => rfl
  | 9, _ => rfl
  | 10, _ => rfl
  | j + 11, h => exact absurd h (by omega)
theorem df_Sc : ∀ j, j < 4 → defaultValue (y_Sc j) = vp_V (bw_f (FTc 3) 0 (fun _ => 0) (fun _ => none) (fun _ => 0)) j := by
  intro j hj
  match j, hj with
  | 0, _ => rfl
  | 1, _ => rfl
  | 2, _ => rfl
  | 3, _ => rfl
  | j + 4, h => exact absurd h (by omega)
theorem df_Wy : ∀ j, j < 3 → defaultValue (y_Wy j) = vp_V (bw_f (FTc 4) 0 (fun _ => 0) (fun _ => none) (fun _ => 0)) j := by
  intro j hj
  match j, hj with
  | 0, _ => rfl
  | 1, _ => rfl
  | 2, _ => rfl
  | j + 3, h => exact absurd h (by omega)
theorem df_Br : ∀ j, j < 9 → defaultValue (y_Br j) = vp_V (bw_f (FTc 5) 0 (fun _ => 0) (fun _ => none) (fun _ => 0)) j := by
  intro j hj
  match j, hj with
  | 0, _ => rfl
  | 1, _ => rfl
  | 2, _ => rfl
  | 3, _ => rfl
  | 4, _ => rfl
  | 5, _ => rfl
  | 6, _ => rfl
  | 7, _ => rfl
  | 8, _ => rfl
  | j + 9, h => exact absurd h (by omega)
theorem df_Mo : ∀ j, j < 32 → defaultValue (y_Mo j) = vp_V (bw_f (FTc 6) 0 (fun _ => 0) (fun _ => none) (fun _ => 0)) j := by
  intro j hj
  match j, hj with
  | 0, _ => rfl
  | 1, _ => rfl
  | 2, _ => rfl
  | 3, _ => rfl
  | 4, _ => rfl
  | 5, _ => rfl
  | 6, _ => rfl
  | 7, _ => rfl
  | 8, _ => rfl
  | 9, _ => rfl
  | 10, _ => rfl
  | 11, _ => rfl
  | 12, _ => rfl
  | 13, _ => rfl
  | 14, _ => rfl
  | 15, _ => rfl
  | 16, _ => rfl
  | 17, _ => rfl
  | 18, _ => rfl
  | 19, _ => rfl
  | 20, _ => rfl
  | 21, _ => rfl
  | 22, _ => rfl
  | 23, _ => rfl
  | 24, _ => rfl
  | 25, _ => rfl
  | 26, _ => rfl
  | 27, _ => rfl
  | 28, _ => rfl
  | 29, _ => rfl
  | 30, _ => rfl
  | 31, _ => rfl
  | j + 32, h => exact absurd h (by omega)
theorem df_Al : ∀ j, j < 3 → defaultValue (y_Al j) = vp_V (bw_f (FTc 7) 0 (fun _ => 0) (fun _ => none) (fun _ => 0)) j := by
  intro j hj
  match j, hj with
  | 0, _ => rfl
  | 1, _ => rfl
  | 2, _ => rfl
  | j + 3, h => exact absurd h (by omega)
theorem m_58 : (Jvm.Cond.superclass "java/util/ArrayList" "java/util/AbstractList") ∈ TBL := tbl_1 58 rfl rfl
theorem m_86 : (Jvm.Cond.superclass "BeltRows" "java/lang/Object") ∈ TBL := tbl_1 86 rfl rfl
theorem m_148 : (Jvm.Cond.superclass "java/lang/Throwable" "java/lang/Object") ∈ TBL := tbl_1 148 rfl rfl
theorem m_158 : (Jvm.Cond.sameMethod "java/lang/Throwable" "java/lang/Throwable" "fillInStackTrace" "()Ljava/lang/Throwable;") ∈ TBL := tbl_1 158 rfl rfl
theorem m_163 : (Jvm.Cond.codeSync ({ cls := "java/lang/Throwable", name := "fillInStackTrace", desc := "()Ljava/lang/Throwable;" } : Jvm.MethodName) prog_20_method_18_code (1 : Nat) (Option.some (Jvm.ClassFile.FieldType.object "java/lang/Throwable"))) ∈ TBL := tbl_1 163 rfl rfl
theorem m_168 : (Jvm.Cond.native ({ cls := "java/lang/Throwable", name := "fillInStackTrace", desc := "(I)Ljava/lang/Throwable;" } : Jvm.MethodName)) ∈ TBL := tbl_1 168 rfl rfl
theorem m_194 : (Jvm.Cond.superclass "java/lang/IllegalArgumentException" "java/lang/RuntimeException") ∈ TBL := tbl_1 194 rfl rfl
theorem m_211 : (Jvm.Cond.superclass "java/lang/UnsupportedOperationException" "java/lang/RuntimeException") ∈ TBL := tbl_1 211 rfl rfl
theorem m_235 : (Jvm.Cond.superclass "BeltRows$Way" "java/lang/Object") ∈ TBL := tbl_1 235 rfl rfl
theorem m_273 : (Jvm.Cond.superclass "BeltRows$Belt" "java/lang/Object") ∈ TBL := tbl_2 33 rfl rfl
theorem m_305 : (Jvm.Cond.sameMethod "java/lang/Object" "java/lang/Object" "getClass" "()Ljava/lang/Class;") ∈ TBL := tbl_2 65 rfl rfl
theorem m_319 : (Jvm.Cond.native ({ cls := "java/lang/Object", name := "getClass", desc := "()Ljava/lang/Class;" } : Jvm.MethodName)) ∈ TBL := tbl_2 79 rfl rfl
theorem m_331 : (Jvm.Cond.native ({ cls := "java/lang/System", name := "arraycopy", desc := "(Ljava/lang/Object;ILjava/lang/Object;II)V" } : Jvm.MethodName)) ∈ TBL := tbl_2 91 rfl rfl
theorem m_361 : (Jvm.Cond.superclass "java/util/NoSuchElementException" "java/lang/RuntimeException") ∈ TBL := tbl_2 121 rfl rfl
theorem m_419 : (Jvm.Cond.superclass "BeltRows$Scanner" "java/lang/Object") ∈ TBL := tbl_2 179 rfl rfl
theorem m_490 : (Jvm.Cond.superclass "BeltRows$Item" "java/lang/Object") ∈ TBL := tbl_3 10 rfl rfl
theorem m_534 : (Jvm.Cond.superclass "java/lang/IllegalStateException" "java/lang/RuntimeException") ∈ TBL := tbl_3 54 rfl rfl
theorem m_610 : (Jvm.Cond.superclass "BeltRows$Edge" "java/lang/Object") ∈ TBL := tbl_3 130 rfl rfl
theorem m_737 : (Jvm.Cond.superclass "java/lang/ArithmeticException" "java/lang/RuntimeException") ∈ TBL := tbl_4 17 rfl rfl
theorem m_840 : (Jvm.Cond.superclass "BeltRowsModel" "java/lang/Object") ∈ TBL := tbl_4 120 rfl rfl
theorem m_977 : (Jvm.Cond.sameMethod "java/lang/Throwable" "java/lang/Throwable" "fillInStackTrace" "(I)Ljava/lang/Throwable;") ∈ TBL := tbl_5 17 rfl rfl
theorem m_982 : (Jvm.Cond.sameMethod "[Ljava/lang/Object;" "java/lang/Object" "getClass" "()Ljava/lang/Class;") ∈ TBL := tbl_5 22 rfl rfl
