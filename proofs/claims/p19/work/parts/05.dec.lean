abbrev b_Bt_init : ByteArray := prog_2_method_1_code
abbrev n_Bt_init : MethodName := ⟨"BeltRows$Belt", "<init>", "(III)V"⟩
theorem d_Bt_init_0 : decode b_Bt_init 0 = .ok (.aload_n 0, 1) := by decide +kernel
theorem d_Bt_init_1 : decode b_Bt_init 1 = .ok (.invokespecial 1, 3) := by decide +kernel
theorem d_Bt_init_4 : decode b_Bt_init 4 = .ok (.aload_n 0, 1) := by decide +kernel
theorem d_Bt_init_5 : decode b_Bt_init 5 = .ok (.iload_n 1, 1) := by decide +kernel
theorem d_Bt_init_6 : decode b_Bt_init 6 = .ok (.putfield 7, 3) := by decide +kernel
theorem d_Bt_init_9 : decode b_Bt_init 9 = .ok (.aload_n 0, 1) := by decide +kernel
theorem d_Bt_init_10 : decode b_Bt_init 10 = .ok (.iload_n 2, 1) := by decide +kernel
theorem d_Bt_init_11 : decode b_Bt_init 11 = .ok (.putfield 13, 3) := by decide +kernel
theorem d_Bt_init_14 : decode b_Bt_init 14 = .ok (.aload_n 0, 1) := by decide +kernel
theorem d_Bt_init_15 : decode b_Bt_init 15 = .ok (.iload_n 3, 1) := by decide +kernel
theorem d_Bt_init_16 : decode b_Bt_init 16 = .ok (.putfield 16, 3) := by decide +kernel
theorem d_Bt_init_19 : decode b_Bt_init 19 = .ok (.aload_n 0, 1) := by decide +kernel
theorem d_Bt_init_20 : decode b_Bt_init 20 = .ok (.iconst 1, 1) := by decide +kernel
theorem d_Bt_init_21 : decode b_Bt_init 21 = .ok (.putfield 19, 3) := by decide +kernel
theorem d_Bt_init_24 : decode b_Bt_init 24 = .ok (.aload_n 0, 1) := by decide +kernel
theorem d_Bt_init_25 : decode b_Bt_init 25 = .ok (.aconst_null, 1) := by decide +kernel
theorem d_Bt_init_26 : decode b_Bt_init 26 = .ok (.putfield 23, 3) := by decide +kernel
theorem d_Bt_init_29 : decode b_Bt_init 29 = .ok (.aload_n 0, 1) := by decide +kernel
theorem d_Bt_init_30 : decode b_Bt_init 30 = .ok (.aconst_null, 1) := by decide +kernel
theorem d_Bt_init_31 : decode b_Bt_init 31 = .ok (.putfield 27, 3) := by decide +kernel
theorem d_Bt_init_34 : decode b_Bt_init 34 = .ok (.aload_n 0, 1) := by decide +kernel
theorem d_Bt_init_35 : decode b_Bt_init 35 = .ok (.iconst 0, 1) := by decide +kernel
theorem d_Bt_init_36 : decode b_Bt_init 36 = .ok (.putfield 30, 3) := by decide +kernel
theorem d_Bt_init_39 : decode b_Bt_init 39 = .ok (.aload_n 0, 1) := by decide +kernel
theorem d_Bt_init_40 : decode b_Bt_init 40 = .ok (.new 33, 3) := by decide +kernel
theorem d_Bt_init_43 : decode b_Bt_init 43 = .ok (.dup, 1) := by decide +kernel
theorem d_Bt_init_44 : decode b_Bt_init 44 = .ok (.invokespecial 35, 3) := by decide +kernel
theorem d_Bt_init_47 : decode b_Bt_init 47 = .ok (.putfield 36, 3) := by decide +kernel
theorem d_Bt_init_50 : decode b_Bt_init 50 = .ok (.aload_n 0, 1) := by decide +kernel
theorem d_Bt_init_51 : decode b_Bt_init 51 = .ok (.new 33, 3) := by decide +kernel
theorem d_Bt_init_54 : decode b_Bt_init 54 = .ok (.dup, 1) := by decide +kernel
theorem d_Bt_init_55 : decode b_Bt_init 55 = .ok (.invokespecial 35, 3) := by decide +kernel
theorem d_Bt_init_58 : decode b_Bt_init 58 = .ok (.putfield 40, 3) := by decide +kernel
theorem d_Bt_init_61 : decode b_Bt_init 61 = .ok (.return_, 1) := by decide +kernel
abbrev b_Wy_init : ByteArray := prog_6_method_1_code
abbrev n_Wy_init : MethodName := ⟨"BeltRows$Way", "<init>", "()V"⟩
theorem d_Wy_init_0 : decode b_Wy_init 0 = .ok (.aload_n 0, 1) := by decide +kernel
theorem d_Wy_init_1 : decode b_Wy_init 1 = .ok (.invokespecial 3, 3) := by decide +kernel
theorem d_Wy_init_4 : decode b_Wy_init 4 = .ok (.aload_n 0, 1) := by decide +kernel
theorem d_Wy_init_5 : decode b_Wy_init 5 = .ok (.aconst_null, 1) := by decide +kernel
theorem d_Wy_init_6 : decode b_Wy_init 6 = .ok (.putfield 9, 3) := by decide +kernel
theorem d_Wy_init_9 : decode b_Wy_init 9 = .ok (.aload_n 0, 1) := by decide +kernel
theorem d_Wy_init_10 : decode b_Wy_init 10 = .ok (.iconst 1, 1) := by decide +kernel
theorem d_Wy_init_11 : decode b_Wy_init 11 = .ok (.putfield 15, 3) := by decide +kernel
theorem d_Wy_init_14 : decode b_Wy_init 14 = .ok (.aload_n 0, 1) := by decide +kernel
theorem d_Wy_init_15 : decode b_Wy_init 15 = .ok (.iconst 0, 1) := by decide +kernel
theorem d_Wy_init_16 : decode b_Wy_init 16 = .ok (.putfield 19, 3) := by decide +kernel
theorem d_Wy_init_19 : decode b_Wy_init 19 = .ok (.return_, 1) := by decide +kernel
abbrev b_Bt_wayNumbered : ByteArray := prog_2_method_2_code
abbrev n_Bt_wayNumbered : MethodName := ⟨"BeltRows$Belt", "wayNumbered", "(I)LBeltRows$Way;"⟩
theorem d_Bt_wayNumbered_0 : decode b_Bt_wayNumbered 0 = .ok (.iload_n 1, 1) := by decide +kernel
theorem d_Bt_wayNumbered_1 : decode b_Bt_wayNumbered 1 = .ok (.iconst 1, 1) := by decide +kernel
theorem d_Bt_wayNumbered_2 : decode b_Bt_wayNumbered 2 = .ok (.if_icmp .ne 10, 3) := by decide +kernel
theorem d_Bt_wayNumbered_5 : decode b_Bt_wayNumbered 5 = .ok (.aload_n 0, 1) := by decide +kernel
theorem d_Bt_wayNumbered_6 : decode b_Bt_wayNumbered 6 = .ok (.getfield 40, 3) := by decide +kernel
theorem d_Bt_wayNumbered_9 : decode b_Bt_wayNumbered 9 = .ok (.goto 7, 3) := by decide +kernel
theorem d_Bt_wayNumbered_12 : decode b_Bt_wayNumbered 12 = .ok (.aload_n 0, 1) := by decide +kernel
theorem d_Bt_wayNumbered_13 : decode b_Bt_wayNumbered 13 = .ok (.getfield 36, 3) := by decide +kernel
theorem d_Bt_wayNumbered_16 : decode b_Bt_wayNumbered 16 = .ok (.areturn, 1) := by decide +kernel
abbrev b_Wy_leadTo : ByteArray := prog_6_method_2_code
abbrev n_Wy_leadTo : MethodName := ⟨"BeltRows$Way", "leadTo", "(LBeltRows$Belt;I)V"⟩
theorem d_Wy_leadTo_0 : decode b_Wy_leadTo 0 = .ok (.aload_n 0, 1) := by decide +kernel
theorem d_Wy_leadTo_1 : decode b_Wy_leadTo 1 = .ok (.aload_n 1, 1) := by decide +kernel
theorem d_Wy_leadTo_2 : decode b_Wy_leadTo 2 = .ok (.putfield 9, 3) := by decide +kernel
theorem d_Wy_leadTo_5 : decode b_Wy_leadTo 5 = .ok (.aload_n 0, 1) := by decide +kernel
theorem d_Wy_leadTo_6 : decode b_Wy_leadTo 6 = .ok (.iload_n 2, 1) := by decide +kernel
theorem d_Wy_leadTo_7 : decode b_Wy_leadTo 7 = .ok (.putfield 15, 3) := by decide +kernel
theorem d_Wy_leadTo_10 : decode b_Wy_leadTo 10 = .ok (.aload_n 0, 1) := by decide +kernel
theorem d_Wy_leadTo_11 : decode b_Wy_leadTo 11 = .ok (.iconst 0, 1) := by decide +kernel
theorem d_Wy_leadTo_12 : decode b_Wy_leadTo 12 = .ok (.putfield 19, 3) := by decide +kernel
theorem d_Wy_leadTo_15 : decode b_Wy_leadTo 15 = .ok (.return_, 1) := by decide +kernel
abbrev b_Sc_init : ByteArray := prog_5_method_1_code
abbrev n_Sc_init : MethodName := ⟨"BeltRows$Scanner", "<init>", "(ILBeltRows$Belt;II)V"⟩
theorem d_Sc_init_0 : decode b_Sc_init 0 = .ok (.aload_n 0, 1) := by decide +kernel
theorem d_Sc_init_1 : decode b_Sc_init 1 = .ok (.invokespecial 1, 3) := by decide +kernel
theorem d_Sc_init_4 : decode b_Sc_init 4 = .ok (.aload_n 0, 1) := by decide +kernel
theorem d_Sc_init_5 : decode b_Sc_init 5 = .ok (.iload_n 1, 1) := by decide +kernel
theorem d_Sc_init_6 : decode b_Sc_init 6 = .ok (.putfield 7, 3) := by decide +kernel
theorem d_Sc_init_9 : decode b_Sc_init 9 = .ok (.aload_n 0, 1) := by decide +kernel
theorem d_Sc_init_10 : decode b_Sc_init 10 = .ok (.aload_n 2, 1) := by decide +kernel
theorem d_Sc_init_11 : decode b_Sc_init 11 = .ok (.putfield 13, 3) := by decide +kernel
theorem d_Sc_init_14 : decode b_Sc_init 14 = .ok (.aload_n 0, 1) := by decide +kernel
theorem d_Sc_init_15 : decode b_Sc_init 15 = .ok (.iload_n 3, 1) := by decide +kernel
theorem d_Sc_init_16 : decode b_Sc_init 16 = .ok (.putfield 17, 3) := by decide +kernel
theorem d_Sc_init_19 : decode b_Sc_init 19 = .ok (.aload_n 0, 1) := by decide +kernel
theorem d_Sc_init_20 : decode b_Sc_init 20 = .ok (.iload 4, 2) := by decide +kernel
theorem d_Sc_init_22 : decode b_Sc_init 22 = .ok (.putfield 20, 3) := by decide +kernel
theorem d_Sc_init_25 : decode b_Sc_init 25 = .ok (.return_, 1) := by decide +kernel
abbrev b_It_rear : ByteArray := prog_4_method_2_code
abbrev n_It_rear : MethodName := ⟨"BeltRows$Item", "rear", "()I"⟩
theorem d_It_rear_0 : decode b_It_rear 0 = .ok (.aload_n 0, 1) := by decide +kernel
theorem d_It_rear_1 : decode b_It_rear 1 = .ok (.getfield 35, 3) := by decide +kernel
theorem d_It_rear_4 : decode b_It_rear 4 = .ok (.aload_n 0, 1) := by decide +kernel
theorem d_It_rear_5 : decode b_It_rear 5 = .ok (.getfield 15, 3) := by decide +kernel
theorem d_It_rear_8 : decode b_It_rear 8 = .ok (.isub, 1) := by decide +kernel
theorem d_It_rear_9 : decode b_It_rear 9 = .ok (.ireturn, 1) := by decide +kernel
abbrev b_It_init : ByteArray := prog_4_method_1_code
abbrev n_It_init : MethodName := ⟨"BeltRows$Item", "<init>", "(III)V"⟩
theorem d_It_init_0 : decode b_It_init 0 = .ok (.aload_n 0, 1) := by decide +kernel
theorem d_It_init_1 : decode b_It_init 1 = .ok (.invokespecial 3, 3) := by decide +kernel
theorem d_It_init_4 : decode b_It_init 4 = .ok (.aload_n 0, 1) := by decide +kernel
theorem d_It_init_5 : decode b_It_init 5 = .ok (.iload_n 1, 1) := by decide +kernel
theorem d_It_init_6 : decode b_It_init 6 = .ok (.putfield 9, 3) := by decide +kernel
theorem d_It_init_9 : decode b_It_init 9 = .ok (.aload_n 0, 1) := by decide +kernel
theorem d_It_init_10 : decode b_It_init 10 = .ok (.iload_n 2, 1) := by decide +kernel
theorem d_It_init_11 : decode b_It_init 11 = .ok (.putfield 15, 3) := by decide +kernel
theorem d_It_init_14 : decode b_It_init 14 = .ok (.aload_n 0, 1) := by decide +kernel
theorem d_It_init_15 : decode b_It_init 15 = .ok (.iload_n 3, 1) := by decide +kernel
theorem d_It_init_16 : decode b_It_init 16 = .ok (.putfield 18, 3) := by decide +kernel
theorem d_It_init_19 : decode b_It_init 19 = .ok (.aload_n 0, 1) := by decide +kernel
theorem d_It_init_20 : decode b_It_init 20 = .ok (.aconst_null, 1) := by decide +kernel
theorem d_It_init_21 : decode b_It_init 21 = .ok (.putfield 21, 3) := by decide +kernel
theorem d_It_init_24 : decode b_It_init 24 = .ok (.aload_n 0, 1) := by decide +kernel
theorem d_It_init_25 : decode b_It_init 25 = .ok (.aconst_null, 1) := by decide +kernel
theorem d_It_init_26 : decode b_It_init 26 = .ok (.putfield 25, 3) := by decide +kernel
theorem d_It_init_29 : decode b_It_init 29 = .ok (.aload_n 0, 1) := by decide +kernel
theorem d_It_init_30 : decode b_It_init 30 = .ok (.aconst_null, 1) := by decide +kernel
theorem d_It_init_31 : decode b_It_init 31 = .ok (.putfield 29, 3) := by decide +kernel
theorem d_It_init_34 : decode b_It_init 34 = .ok (.aload_n 0, 1) := by decide +kernel
theorem d_It_init_35 : decode b_It_init 35 = .ok (.iconst 0, 1) := by decide +kernel
theorem d_It_init_36 : decode b_It_init 36 = .ok (.putfield 32, 3) := by decide +kernel
theorem d_It_init_39 : decode b_It_init 39 = .ok (.aload_n 0, 1) := by decide +kernel
theorem d_It_init_40 : decode b_It_init 40 = .ok (.iconst 0, 1) := by decide +kernel
theorem d_It_init_41 : decode b_It_init 41 = .ok (.putfield 35, 3) := by decide +kernel
theorem d_It_init_44 : decode b_It_init 44 = .ok (.aload_n 0, 1) := by decide +kernel
theorem d_It_init_45 : decode b_It_init 45 = .ok (.iconst 0, 1) := by decide +kernel
theorem d_It_init_46 : decode b_It_init 46 = .ok (.putfield 38, 3) := by decide +kernel
theorem d_It_init_49 : decode b_It_init 49 = .ok (.aload_n 0, 1) := by decide +kernel
theorem d_It_init_50 : decode b_It_init 50 = .ok (.iconst 0, 1) := by decide +kernel
theorem d_It_init_51 : decode b_It_init 51 = .ok (.putfield 41, 3) := by decide +kernel
theorem d_It_init_54 : decode b_It_init 54 = .ok (.aload_n 0, 1) := by decide +kernel
theorem d_It_init_55 : decode b_It_init 55 = .ok (.iconst 0, 1) := by decide +kernel
theorem d_It_init_56 : decode b_It_init 56 = .ok (.putfield 44, 3) := by decide +kernel
theorem d_It_init_59 : decode b_It_init 59 = .ok (.return_, 1) := by decide +kernel
abbrev b_Bt_takeOn : ByteArray := prog_2_method_6_code
abbrev n_Bt_takeOn : MethodName := ⟨"BeltRows$Belt", "takeOn", "(LBeltRows$Item;)V"⟩
theorem d_Bt_takeOn_0 : decode b_Bt_takeOn 0 = .ok (.aload_n 1, 1) := by decide +kernel
theorem d_Bt_takeOn_1 : decode b_Bt_takeOn 1 = .ok (.aload_n 0, 1) := by decide +kernel
theorem d_Bt_takeOn_2 : decode b_Bt_takeOn 2 = .ok (.aload_n 0, 1) := by decide +kernel
theorem d_Bt_takeOn_3 : decode b_Bt_takeOn 3 = .ok (.getfield 27, 3) := by decide +kernel
theorem d_Bt_takeOn_6 : decode b_Bt_takeOn 6 = .ok (.invokevirtual 67, 3) := by decide +kernel
theorem d_Bt_takeOn_9 : decode b_Bt_takeOn 9 = .ok (.aload_n 0, 1) := by decide +kernel
theorem d_Bt_takeOn_10 : decode b_Bt_takeOn 10 = .ok (.getfield 27, 3) := by decide +kernel
theorem d_Bt_takeOn_13 : decode b_Bt_takeOn 13 = .ok (.ifnonnull 11, 3) := by decide +kernel
theorem d_Bt_takeOn_16 : decode b_Bt_takeOn 16 = .ok (.aload_n 0, 1) := by decide +kernel
theorem d_Bt_takeOn_17 : decode b_Bt_takeOn 17 = .ok (.aload_n 1, 1) := by decide +kernel
theorem d_Bt_takeOn_18 : decode b_Bt_takeOn 18 = .ok (.putfield 23, 3) := by decide +kernel
theorem d_Bt_takeOn_21 : decode b_Bt_takeOn 21 = .ok (.goto 11, 3) := by decide +kernel
theorem d_Bt_takeOn_24 : decode b_Bt_takeOn 24 = .ok (.aload_n 0, 1) := by decide +kernel
theorem d_Bt_takeOn_25 : decode b_Bt_takeOn 25 = .ok (.getfield 27, 3) := by decide +kernel
theorem d_Bt_takeOn_28 : decode b_Bt_takeOn 28 = .ok (.aload_n 1, 1) := by decide +kernel
theorem d_Bt_takeOn_29 : decode b_Bt_takeOn 29 = .ok (.putfield 71, 3) := by decide +kernel
theorem d_Bt_takeOn_32 : decode b_Bt_takeOn 32 = .ok (.aload_n 0, 1) := by decide +kernel
theorem d_Bt_takeOn_33 : decode b_Bt_takeOn 33 = .ok (.aload_n 1, 1) := by decide +kernel
theorem d_Bt_takeOn_34 : decode b_Bt_takeOn 34 = .ok (.putfield 27, 3) := by decide +kernel
theorem d_Bt_takeOn_37 : decode b_Bt_takeOn 37 = .ok (.aload_n 0, 1) := by decide +kernel
theorem d_Bt_takeOn_38 : decode b_Bt_takeOn 38 = .ok (.dup, 1) := by decide +kernel
theorem d_Bt_takeOn_39 : decode b_Bt_takeOn 39 = .ok (.getfield 30, 3) := by decide +kernel
theorem d_Bt_takeOn_42 : decode b_Bt_takeOn 42 = .ok (.iconst 1, 1) := by decide +kernel
theorem d_Bt_takeOn_43 : decode b_Bt_takeOn 43 = .ok (.iadd, 1) := by decide +kernel
theorem d_Bt_takeOn_44 : decode b_Bt_takeOn 44 = .ok (.putfield 30, 3) := by decide +kernel
theorem d_Bt_takeOn_47 : decode b_Bt_takeOn 47 = .ok (.return_, 1) := by decide +kernel
abbrev b_It_startOn : ByteArray := prog_4_method_3_code
abbrev n_It_startOn : MethodName := ⟨"BeltRows$Item", "startOn", "(LBeltRows$Belt;LBeltRows$Item;)V"⟩
theorem d_It_startOn_0 : decode b_It_startOn 0 = .ok (.aload_n 0, 1) := by decide +kernel
theorem d_It_startOn_1 : decode b_It_startOn 1 = .ok (.aload_n 1, 1) := by decide +kernel
theorem d_It_startOn_2 : decode b_It_startOn 2 = .ok (.putfield 21, 3) := by decide +kernel
theorem d_It_startOn_5 : decode b_It_startOn 5 = .ok (.aload_n 0, 1) := by decide +kernel
theorem d_It_startOn_6 : decode b_It_startOn 6 = .ok (.aload_n 2, 1) := by decide +kernel
theorem d_It_startOn_7 : decode b_It_startOn 7 = .ok (.putfield 25, 3) := by decide +kernel
theorem d_It_startOn_10 : decode b_It_startOn 10 = .ok (.aload_n 0, 1) := by decide +kernel
theorem d_It_startOn_11 : decode b_It_startOn 11 = .ok (.aconst_null, 1) := by decide +kernel
theorem d_It_startOn_12 : decode b_It_startOn 12 = .ok (.putfield 29, 3) := by decide +kernel
theorem d_It_startOn_15 : decode b_It_startOn 15 = .ok (.aload_n 0, 1) := by decide +kernel
theorem d_It_startOn_16 : decode b_It_startOn 16 = .ok (.iconst 0, 1) := by decide +kernel
theorem d_It_startOn_17 : decode b_It_startOn 17 = .ok (.putfield 35, 3) := by decide +kernel
theorem d_It_startOn_20 : decode b_It_startOn 20 = .ok (.aload_n 0, 1) := by decide +kernel
theorem d_It_startOn_21 : decode b_It_startOn 21 = .ok (.iconst 0, 1) := by decide +kernel
theorem d_It_startOn_22 : decode b_It_startOn 22 = .ok (.putfield 38, 3) := by decide +kernel
theorem d_It_startOn_25 : decode b_It_startOn 25 = .ok (.aload_n 0, 1) := by decide +kernel
theorem d_It_startOn_26 : decode b_It_startOn 26 = .ok (.invokevirtual 48, 3) := by decide +kernel
theorem d_It_startOn_29 : decode b_It_startOn 29 = .ok (.return_, 1) := by decide +kernel
abbrev b_It_forgetWay : ByteArray := prog_4_method_6_code
abbrev n_It_forgetWay : MethodName := ⟨"BeltRows$Item", "forgetWay", "()V"⟩
theorem d_It_forgetWay_0 : decode b_It_forgetWay 0 = .ok (.aload_n 0, 1) := by decide +kernel
theorem d_It_forgetWay_1 : decode b_It_forgetWay 1 = .ok (.iconst 0, 1) := by decide +kernel
theorem d_It_forgetWay_2 : decode b_It_forgetWay 2 = .ok (.putfield 41, 3) := by decide +kernel
theorem d_It_forgetWay_5 : decode b_It_forgetWay 5 = .ok (.aload_n 0, 1) := by decide +kernel
theorem d_It_forgetWay_6 : decode b_It_forgetWay 6 = .ok (.iconst 0, 1) := by decide +kernel
theorem d_It_forgetWay_7 : decode b_It_forgetWay 7 = .ok (.putfield 44, 3) := by decide +kernel
theorem d_It_forgetWay_10 : decode b_It_forgetWay 10 = .ok (.return_, 1) := by decide +kernel
abbrev b_Bt_itemAtEnd : ByteArray := prog_2_method_4_code
abbrev n_Bt_itemAtEnd : MethodName := ⟨"BeltRows$Belt", "itemAtEnd", "()LBeltRows$Item;"⟩
theorem d_Bt_itemAtEnd_0 : decode b_Bt_itemAtEnd 0 = .ok (.aload_n 0, 1) := by decide +kernel
theorem d_Bt_itemAtEnd_1 : decode b_Bt_itemAtEnd 1 = .ok (.getfield 23, 3) := by decide +kernel
theorem d_Bt_itemAtEnd_4 : decode b_Bt_itemAtEnd 4 = .ok (.ifnull 24, 3) := by decide +kernel
theorem d_Bt_itemAtEnd_7 : decode b_Bt_itemAtEnd 7 = .ok (.aload_n 0, 1) := by decide +kernel
theorem d_Bt_itemAtEnd_8 : decode b_Bt_itemAtEnd 8 = .ok (.getfield 23, 3) := by decide +kernel
theorem d_Bt_itemAtEnd_11 : decode b_Bt_itemAtEnd 11 = .ok (.getfield 56, 3) := by decide +kernel
theorem d_Bt_itemAtEnd_14 : decode b_Bt_itemAtEnd 14 = .ok (.aload_n 0, 1) := by decide +kernel
theorem d_Bt_itemAtEnd_15 : decode b_Bt_itemAtEnd 15 = .ok (.getfield 13, 3) := by decide +kernel
theorem d_Bt_itemAtEnd_18 : decode b_Bt_itemAtEnd 18 = .ok (.if_icmp .ne 10, 3) := by decide +kernel
theorem d_Bt_itemAtEnd_21 : decode b_Bt_itemAtEnd 21 = .ok (.aload_n 0, 1) := by decide +kernel
theorem d_Bt_itemAtEnd_22 : decode b_Bt_itemAtEnd 22 = .ok (.getfield 23, 3) := by decide +kernel
theorem d_Bt_itemAtEnd_25 : decode b_Bt_itemAtEnd 25 = .ok (.goto 4, 3) := by decide +kernel
theorem d_Bt_itemAtEnd_28 : decode b_Bt_itemAtEnd 28 = .ok (.aconst_null, 1) := by decide +kernel
theorem d_Bt_itemAtEnd_29 : decode b_Bt_itemAtEnd 29 = .ok (.areturn, 1) := by decide +kernel
abbrev b_Bt_wayOf : ByteArray := prog_2_method_3_code
abbrev n_Bt_wayOf : MethodName := ⟨"BeltRows$Belt", "wayOf", "(LBeltRows$Item;)LBeltRows$Way;"⟩
theorem d_Bt_wayOf_0 : decode b_Bt_wayOf 0 = .ok (.aload_n 0, 1) := by decide +kernel
theorem d_Bt_wayOf_1 : decode b_Bt_wayOf 1 = .ok (.aload_n 1, 1) := by decide +kernel
theorem d_Bt_wayOf_2 : decode b_Bt_wayOf 2 = .ok (.getfield 43, 3) := by decide +kernel
theorem d_Bt_wayOf_5 : decode b_Bt_wayOf 5 = .ok (.invokevirtual 48, 3) := by decide +kernel
theorem d_Bt_wayOf_8 : decode b_Bt_wayOf 8 = .ok (.astore_n 2, 1) := by decide +kernel
theorem d_Bt_wayOf_9 : decode b_Bt_wayOf 9 = .ok (.aload_n 2, 1) := by decide +kernel
theorem d_Bt_wayOf_10 : decode b_Bt_wayOf 10 = .ok (.getfield 52, 3) := by decide +kernel
theorem d_Bt_wayOf_13 : decode b_Bt_wayOf 13 = .ok (.ifnull 5, 3) := by decide +kernel
theorem d_Bt_wayOf_16 : decode b_Bt_wayOf 16 = .ok (.aload_n 2, 1) := by decide +kernel
theorem d_Bt_wayOf_17 : decode b_Bt_wayOf 17 = .ok (.areturn, 1) := by decide +kernel
theorem d_Bt_wayOf_18 : decode b_Bt_wayOf 18 = .ok (.aload_n 0, 1) := by decide +kernel
theorem d_Bt_wayOf_19 : decode b_Bt_wayOf 19 = .ok (.getfield 36, 3) := by decide +kernel
theorem d_Bt_wayOf_22 : decode b_Bt_wayOf 22 = .ok (.getfield 52, 3) := by decide +kernel
theorem d_Bt_wayOf_25 : decode b_Bt_wayOf 25 = .ok (.ifnull 10, 3) := by decide +kernel
theorem d_Bt_wayOf_28 : decode b_Bt_wayOf 28 = .ok (.aload_n 0, 1) := by decide +kernel
theorem d_Bt_wayOf_29 : decode b_Bt_wayOf 29 = .ok (.getfield 36, 3) := by decide +kernel
theorem d_Bt_wayOf_32 : decode b_Bt_wayOf 32 = .ok (.goto 4, 3) := by decide +kernel
theorem d_Bt_wayOf_35 : decode b_Bt_wayOf 35 = .ok (.aconst_null, 1) := by decide +kernel
theorem d_Bt_wayOf_36 : decode b_Bt_wayOf 36 = .ok (.areturn, 1) := by decide +kernel
abbrev b_It_leave : ByteArray := prog_4_method_4_code
abbrev n_It_leave : MethodName := ⟨"BeltRows$Item", "leave", "(I)V"⟩
theorem d_It_leave_0 : decode b_It_leave 0 = .ok (.aload_n 0, 1) := by decide +kernel
theorem d_It_leave_1 : decode b_It_leave 1 = .ok (.getfield 21, 3) := by decide +kernel
theorem d_It_leave_4 : decode b_It_leave 4 = .ok (.ifnull 11, 3) := by decide +kernel
theorem d_It_leave_7 : decode b_It_leave 7 = .ok (.aload_n 0, 1) := by decide +kernel
theorem d_It_leave_8 : decode b_It_leave 8 = .ok (.getfield 21, 3) := by decide +kernel
theorem d_It_leave_11 : decode b_It_leave 11 = .ok (.aload_n 0, 1) := by decide +kernel
theorem d_It_leave_12 : decode b_It_leave 12 = .ok (.invokevirtual 51, 3) := by decide +kernel
theorem d_It_leave_15 : decode b_It_leave 15 = .ok (.aload_n 0, 1) := by decide +kernel
theorem d_It_leave_16 : decode b_It_leave 16 = .ok (.iload_n 1, 1) := by decide +kernel
theorem d_It_leave_17 : decode b_It_leave 17 = .ok (.putfield 32, 3) := by decide +kernel
theorem d_It_leave_20 : decode b_It_leave 20 = .ok (.aload_n 0, 1) := by decide +kernel
theorem d_It_leave_21 : decode b_It_leave 21 = .ok (.invokevirtual 48, 3) := by decide +kernel
theorem d_It_leave_24 : decode b_It_leave 24 = .ok (.return_, 1) := by decide +kernel
abbrev b_Bt_letGo : ByteArray := prog_2_method_7_code
abbrev n_Bt_letGo : MethodName := ⟨"BeltRows$Belt", "letGo", "(LBeltRows$Item;)V"⟩
theorem d_Bt_letGo_0 : decode b_Bt_letGo 0 = .ok (.aload_n 1, 1) := by decide +kernel
theorem d_Bt_letGo_1 : decode b_Bt_letGo 1 = .ok (.getfield 74, 3) := by decide +kernel
theorem d_Bt_letGo_4 : decode b_Bt_letGo 4 = .ok (.ifnonnull 14, 3) := by decide +kernel
theorem d_Bt_letGo_7 : decode b_Bt_letGo 7 = .ok (.aload_n 0, 1) := by decide +kernel
theorem d_Bt_letGo_8 : decode b_Bt_letGo 8 = .ok (.aload_n 1, 1) := by decide +kernel
theorem d_Bt_letGo_9 : decode b_Bt_letGo 9 = .ok (.getfield 71, 3) := by decide +kernel
theorem d_Bt_letGo_12 : decode b_Bt_letGo 12 = .ok (.putfield 23, 3) := by decide +kernel
theorem d_Bt_letGo_15 : decode b_Bt_letGo 15 = .ok (.goto 14, 3) := by decide +kernel
theorem d_Bt_letGo_18 : decode b_Bt_letGo 18 = .ok (.aload_n 1, 1) := by decide +kernel
theorem d_Bt_letGo_19 : decode b_Bt_letGo 19 = .ok (.getfield 74, 3) := by decide +kernel
theorem d_Bt_letGo_22 : decode b_Bt_letGo 22 = .ok (.aload_n 1, 1) := by decide +kernel
theorem d_Bt_letGo_23 : decode b_Bt_letGo 23 = .ok (.getfield 71, 3) := by decide +kernel
theorem d_Bt_letGo_26 : decode b_Bt_letGo 26 = .ok (.putfield 71, 3) := by decide +kernel
theorem d_Bt_letGo_29 : decode b_Bt_letGo 29 = .ok (.aload_n 1, 1) := by decide +kernel
theorem d_Bt_letGo_30 : decode b_Bt_letGo 30 = .ok (.getfield 71, 3) := by decide +kernel
theorem d_Bt_letGo_33 : decode b_Bt_letGo 33 = .ok (.ifnonnull 14, 3) := by decide +kernel
theorem d_Bt_letGo_36 : decode b_Bt_letGo 36 = .ok (.aload_n 0, 1) := by decide +kernel
theorem d_Bt_letGo_37 : decode b_Bt_letGo 37 = .ok (.aload_n 1, 1) := by decide +kernel
theorem d_Bt_letGo_38 : decode b_Bt_letGo 38 = .ok (.getfield 74, 3) := by decide +kernel
theorem d_Bt_letGo_41 : decode b_Bt_letGo 41 = .ok (.putfield 27, 3) := by decide +kernel
theorem d_Bt_letGo_44 : decode b_Bt_letGo 44 = .ok (.goto 14, 3) := by decide +kernel
theorem d_Bt_letGo_47 : decode b_Bt_letGo 47 = .ok (.aload_n 1, 1) := by decide +kernel
theorem d_Bt_letGo_48 : decode b_Bt_letGo 48 = .ok (.getfield 71, 3) := by decide +kernel
theorem d_Bt_letGo_51 : decode b_Bt_letGo 51 = .ok (.aload_n 1, 1) := by decide +kernel
theorem d_Bt_letGo_52 : decode b_Bt_letGo 52 = .ok (.getfield 74, 3) := by decide +kernel
theorem d_Bt_letGo_55 : decode b_Bt_letGo 55 = .ok (.putfield 74, 3) := by decide +kernel
theorem d_Bt_letGo_58 : decode b_Bt_letGo 58 = .ok (.aload_n 1, 1) := by decide +kernel
theorem d_Bt_letGo_59 : decode b_Bt_letGo 59 = .ok (.aconst_null, 1) := by decide +kernel
theorem d_Bt_letGo_60 : decode b_Bt_letGo 60 = .ok (.putfield 74, 3) := by decide +kernel
theorem d_Bt_letGo_63 : decode b_Bt_letGo 63 = .ok (.aload_n 1, 1) := by decide +kernel
theorem d_Bt_letGo_64 : decode b_Bt_letGo 64 = .ok (.aconst_null, 1) := by decide +kernel
theorem d_Bt_letGo_65 : decode b_Bt_letGo 65 = .ok (.putfield 71, 3) := by decide +kernel
theorem d_Bt_letGo_68 : decode b_Bt_letGo 68 = .ok (.aload_n 0, 1) := by decide +kernel
theorem d_Bt_letGo_69 : decode b_Bt_letGo 69 = .ok (.dup, 1) := by decide +kernel
theorem d_Bt_letGo_70 : decode b_Bt_letGo 70 = .ok (.getfield 30, 3) := by decide +kernel
theorem d_Bt_letGo_73 : decode b_Bt_letGo 73 = .ok (.iconst 1, 1) := by decide +kernel
theorem d_Bt_letGo_74 : decode b_Bt_letGo 74 = .ok (.isub, 1) := by decide +kernel
theorem d_Bt_letGo_75 : decode b_Bt_letGo 75 = .ok (.putfield 30, 3) := by decide +kernel
theorem d_Bt_letGo_78 : decode b_Bt_letGo 78 = .ok (.return_, 1) := by decide +kernel
abbrev b_Ed_init : ByteArray := prog_3_method_1_code
abbrev n_Ed_init : MethodName := ⟨"BeltRows$Edge", "<init>", "(IIII)V"⟩
theorem d_Ed_init_0 : decode b_Ed_init 0 = .ok (.aload_n 0, 1) := by decide +kernel
theorem d_Ed_init_1 : decode b_Ed_init 1 = .ok (.invokespecial 1, 3) := by decide +kernel
theorem d_Ed_init_4 : decode b_Ed_init 4 = .ok (.aload_n 0, 1) := by decide +kernel
theorem d_Ed_init_5 : decode b_Ed_init 5 = .ok (.iload_n 1, 1) := by decide +kernel
theorem d_Ed_init_6 : decode b_Ed_init 6 = .ok (.putfield 7, 3) := by decide +kernel
theorem d_Ed_init_9 : decode b_Ed_init 9 = .ok (.aload_n 0, 1) := by decide +kernel
theorem d_Ed_init_10 : decode b_Ed_init 10 = .ok (.iload_n 2, 1) := by decide +kernel
theorem d_Ed_init_11 : decode b_Ed_init 11 = .ok (.putfield 13, 3) := by decide +kernel
theorem d_Ed_init_14 : decode b_Ed_init 14 = .ok (.aload_n 0, 1) := by decide +kernel
theorem d_Ed_init_15 : decode b_Ed_init 15 = .ok (.iload_n 3, 1) := by decide +kernel
theorem d_Ed_init_16 : decode b_Ed_init 16 = .ok (.putfield 16, 3) := by decide +kernel
theorem d_Ed_init_19 : decode b_Ed_init 19 = .ok (.aload_n 0, 1) := by decide +kernel
theorem d_Ed_init_20 : decode b_Ed_init 20 = .ok (.iload 4, 2) := by decide +kernel
theorem d_Ed_init_22 : decode b_Ed_init 22 = .ok (.putfield 19, 3) := by decide +kernel
theorem d_Ed_init_25 : decode b_Ed_init 25 = .ok (.return_, 1) := by decide +kernel
abbrev b_Bt_wayInUse : ByteArray := prog_2_method_5_code
abbrev n_Bt_wayInUse : MethodName := ⟨"BeltRows$Belt", "wayInUse", "()LBeltRows$Way;"⟩
theorem d_Bt_wayInUse_0 : decode b_Bt_wayInUse 0 = .ok (.aload_n 0, 1) := by decide +kernel
theorem d_Bt_wayInUse_1 : decode b_Bt_wayInUse 1 = .ok (.invokevirtual 59, 3) := by decide +kernel
theorem d_Bt_wayInUse_4 : decode b_Bt_wayInUse 4 = .ok (.astore_n 1, 1) := by decide +kernel
theorem d_Bt_wayInUse_5 : decode b_Bt_wayInUse 5 = .ok (.aload_n 0, 1) := by decide +kernel
theorem d_Bt_wayInUse_6 : decode b_Bt_wayInUse 6 = .ok (.getfield 19, 3) := by decide +kernel
theorem d_Bt_wayInUse_9 : decode b_Bt_wayInUse 9 = .ok (.ifCond .eq 15, 3) := by decide +kernel
theorem d_Bt_wayInUse_12 : decode b_Bt_wayInUse 12 = .ok (.aload_n 1, 1) := by decide +kernel
theorem d_Bt_wayInUse_13 : decode b_Bt_wayInUse 13 = .ok (.ifnull 11, 3) := by decide +kernel
theorem d_Bt_wayInUse_16 : decode b_Bt_wayInUse 16 = .ok (.aload_n 0, 1) := by decide +kernel
theorem d_Bt_wayInUse_17 : decode b_Bt_wayInUse 17 = .ok (.aload_n 1, 1) := by decide +kernel
theorem d_Bt_wayInUse_18 : decode b_Bt_wayInUse 18 = .ok (.invokevirtual 63, 3) := by decide +kernel
theorem d_Bt_wayInUse_21 : decode b_Bt_wayInUse 21 = .ok (.goto 4, 3) := by decide +kernel
theorem d_Bt_wayInUse_24 : decode b_Bt_wayInUse 24 = .ok (.aconst_null, 1) := by decide +kernel
theorem d_Bt_wayInUse_25 : decode b_Bt_wayInUse 25 = .ok (.areturn, 1) := by decide +kernel
abbrev b_Wy_isDueBefore : ByteArray := prog_6_method_4_code
abbrev n_Wy_isDueBefore : MethodName := ⟨"BeltRows$Way", "isDueBefore", "(LBeltRows$Way;)Z"⟩
theorem d_Wy_isDueBefore_0 : decode b_Wy_isDueBefore 0 = .ok (.aload_n 0, 1) := by decide +kernel
theorem d_Wy_isDueBefore_1 : decode b_Wy_isDueBefore 1 = .ok (.getfield 19, 3) := by decide +kernel
theorem d_Wy_isDueBefore_4 : decode b_Wy_isDueBefore 4 = .ok (.aload_n 1, 1) := by decide +kernel
theorem d_Wy_isDueBefore_5 : decode b_Wy_isDueBefore 5 = .ok (.getfield 15, 3) := by decide +kernel
theorem d_Wy_isDueBefore_8 : decode b_Wy_isDueBefore 8 = .ok (.imul, 1) := by decide +kernel
theorem d_Wy_isDueBefore_9 : decode b_Wy_isDueBefore 9 = .ok (.aload_n 1, 1) := by decide +kernel
theorem d_Wy_isDueBefore_10 : decode b_Wy_isDueBefore 10 = .ok (.getfield 19, 3) := by decide +kernel
theorem d_Wy_isDueBefore_13 : decode b_Wy_isDueBefore 13 = .ok (.aload_n 0, 1) := by decide +kernel
theorem d_Wy_isDueBefore_14 : decode b_Wy_isDueBefore 14 = .ok (.getfield 15, 3) := by decide +kernel
theorem d_Wy_isDueBefore_17 : decode b_Wy_isDueBefore 17 = .ok (.imul, 1) := by decide +kernel
theorem d_Wy_isDueBefore_18 : decode b_Wy_isDueBefore 18 = .ok (.if_icmp .ge 7, 3) := by decide +kernel
theorem d_Wy_isDueBefore_21 : decode b_Wy_isDueBefore 21 = .ok (.iconst 1, 1) := by decide +kernel
theorem d_Wy_isDueBefore_22 : decode b_Wy_isDueBefore 22 = .ok (.goto 4, 3) := by decide +kernel
theorem d_Wy_isDueBefore_25 : decode b_Wy_isDueBefore 25 = .ok (.iconst 0, 1) := by decide +kernel
theorem d_Wy_isDueBefore_26 : decode b_Wy_isDueBefore 26 = .ok (.ireturn, 1) := by decide +kernel
abbrev b_It_goOn : ByteArray := prog_4_method_5_code
abbrev n_It_goOn : MethodName := ⟨"BeltRows$Item", "goOn", "(LBeltRows$Belt;I)V"⟩
theorem d_It_goOn_0 : decode b_It_goOn 0 = .ok (.aload_n 0, 1) := by decide +kernel
theorem d_It_goOn_1 : decode b_It_goOn 1 = .ok (.getfield 25, 3) := by decide +kernel
theorem d_It_goOn_4 : decode b_It_goOn 4 = .ok (.ifnonnull 10, 3) := by decide +kernel
theorem d_It_goOn_7 : decode b_It_goOn 7 = .ok (.aload_n 1, 1) := by decide +kernel
theorem d_It_goOn_8 : decode b_It_goOn 8 = .ok (.getfield 57, 3) := by decide +kernel
theorem d_It_goOn_11 : decode b_It_goOn 11 = .ok (.goto 19, 3) := by decide +kernel
theorem d_It_goOn_14 : decode b_It_goOn 14 = .ok (.aload_n 1, 1) := by decide +kernel
theorem d_It_goOn_15 : decode b_It_goOn 15 = .ok (.getfield 57, 3) := by decide +kernel
theorem d_It_goOn_18 : decode b_It_goOn 18 = .ok (.aload_n 0, 1) := by decide +kernel
theorem d_It_goOn_19 : decode b_It_goOn 19 = .ok (.getfield 25, 3) := by decide +kernel
theorem d_It_goOn_22 : decode b_It_goOn 22 = .ok (.invokevirtual 58, 3) := by decide +kernel
theorem d_It_goOn_25 : decode b_It_goOn 25 = .ok (.iload_n 2, 1) := by decide +kernel
theorem d_It_goOn_26 : decode b_It_goOn 26 = .ok (.isub, 1) := by decide +kernel
theorem d_It_goOn_27 : decode b_It_goOn 27 = .ok (.invokestatic 62, 3) := by decide +kernel
theorem d_It_goOn_30 : decode b_It_goOn 30 = .ok (.istore_n 3, 1) := by decide +kernel
theorem d_It_goOn_31 : decode b_It_goOn 31 = .ok (.aload_n 0, 1) := by decide +kernel
theorem d_It_goOn_32 : decode b_It_goOn 32 = .ok (.aload_n 0, 1) := by decide +kernel
theorem d_It_goOn_33 : decode b_It_goOn 33 = .ok (.getfield 35, 3) := by decide +kernel
theorem d_It_goOn_36 : decode b_It_goOn 36 = .ok (.aload_n 0, 1) := by decide +kernel
theorem d_It_goOn_37 : decode b_It_goOn 37 = .ok (.getfield 35, 3) := by decide +kernel
theorem d_It_goOn_40 : decode b_It_goOn 40 = .ok (.aload_n 1, 1) := by decide +kernel
theorem d_It_goOn_41 : decode b_It_goOn 41 = .ok (.getfield 68, 3) := by decide +kernel
theorem d_It_goOn_44 : decode b_It_goOn 44 = .ok (.iadd, 1) := by decide +kernel
theorem d_It_goOn_45 : decode b_It_goOn 45 = .ok (.iload_n 3, 1) := by decide +kernel
theorem d_It_goOn_46 : decode b_It_goOn 46 = .ok (.invokestatic 62, 3) := by decide +kernel
theorem d_It_goOn_49 : decode b_It_goOn 49 = .ok (.invokestatic 71, 3) := by decide +kernel
theorem d_It_goOn_52 : decode b_It_goOn 52 = .ok (.putfield 35, 3) := by decide +kernel
theorem d_It_goOn_55 : decode b_It_goOn 55 = .ok (.aload_n 0, 1) := by decide +kernel
theorem d_It_goOn_56 : decode b_It_goOn 56 = .ok (.aload_n 0, 1) := by decide +kernel
theorem d_It_goOn_57 : decode b_It_goOn 57 = .ok (.getfield 38, 3) := by decide +kernel
theorem d_It_goOn_60 : decode b_It_goOn 60 = .ok (.aload_n 1, 1) := by decide +kernel
theorem d_It_goOn_61 : decode b_It_goOn 61 = .ok (.getfield 68, 3) := by decide +kernel
theorem d_It_goOn_64 : decode b_It_goOn 64 = .ok (.iadd, 1) := by decide +kernel
theorem d_It_goOn_65 : decode b_It_goOn 65 = .ok (.aload_n 1, 1) := by decide +kernel
theorem d_It_goOn_66 : decode b_It_goOn 66 = .ok (.getfield 57, 3) := by decide +kernel
theorem d_It_goOn_69 : decode b_It_goOn 69 = .ok (.invokestatic 62, 3) := by decide +kernel
theorem d_It_goOn_72 : decode b_It_goOn 72 = .ok (.putfield 38, 3) := by decide +kernel
theorem d_It_goOn_75 : decode b_It_goOn 75 = .ok (.return_, 1) := by decide +kernel
abbrev b_Wy_nextNumber : ByteArray := prog_6_method_3_code
abbrev n_Wy_nextNumber : MethodName := ⟨"BeltRows$Way", "nextNumber", "()I"⟩
theorem d_Wy_nextNumber_0 : decode b_Wy_nextNumber 0 = .ok (.aload_n 0, 1) := by decide +kernel
theorem d_Wy_nextNumber_1 : decode b_Wy_nextNumber 1 = .ok (.getfield 9, 3) := by decide +kernel
theorem d_Wy_nextNumber_4 : decode b_Wy_nextNumber 4 = .ok (.ifnonnull 7, 3) := by decide +kernel
theorem d_Wy_nextNumber_7 : decode b_Wy_nextNumber 7 = .ok (.iconst (-1), 1) := by decide +kernel
theorem d_Wy_nextNumber_8 : decode b_Wy_nextNumber 8 = .ok (.goto 10, 3) := by decide +kernel
theorem d_Wy_nextNumber_11 : decode b_Wy_nextNumber 11 = .ok (.aload_n 0, 1) := by decide +kernel
theorem d_Wy_nextNumber_12 : decode b_Wy_nextNumber 12 = .ok (.getfield 9, 3) := by decide +kernel
theorem d_Wy_nextNumber_15 : decode b_Wy_nextNumber 15 = .ok (.getfield 22, 3) := by decide +kernel
theorem d_Wy_nextNumber_18 : decode b_Wy_nextNumber 18 = .ok (.ireturn, 1) := by decide +kernel
abbrev b_Al_init : ByteArray := prog_24_method_2_code
abbrev n_Al_init : MethodName := ⟨"java/util/ArrayList", "<init>", "()V"⟩
theorem d_Al_init_0 : decode b_Al_init 0 = .ok (.aload_n 0, 1) := by decide +kernel
theorem d_Al_init_1 : decode b_Al_init 1 = .ok (.invokespecial 1, 3) := by decide +kernel
theorem d_Al_init_4 : decode b_Al_init 4 = .ok (.aload_n 0, 1) := by decide +kernel
theorem d_Al_init_5 : decode b_Al_init 5 = .ok (.getstatic 39, 3) := by decide +kernel
theorem d_Al_init_8 : decode b_Al_init 8 = .ok (.putfield 9, 3) := by decide +kernel
theorem d_Al_init_11 : decode b_Al_init 11 = .ok (.return_, 1) := by decide +kernel
abbrev b_Bl_init : ByteArray := prog_23_method_1_code
abbrev n_Bl_init : MethodName := ⟨"java/util/AbstractList", "<init>", "()V"⟩
theorem d_Bl_init_0 : decode b_Bl_init 0 = .ok (.aload_n 0, 1) := by decide +kernel
theorem d_Bl_init_1 : decode b_Bl_init 1 = .ok (.invokespecial 1, 3) := by decide +kernel
theorem d_Bl_init_4 : decode b_Bl_init 4 = .ok (.aload_n 0, 1) := by decide +kernel
theorem d_Bl_init_5 : decode b_Bl_init 5 = .ok (.iconst 0, 1) := by decide +kernel
theorem d_Bl_init_6 : decode b_Bl_init 6 = .ok (.putfield 7, 3) := by decide +kernel
theorem d_Bl_init_9 : decode b_Bl_init 9 = .ok (.return_, 1) := by decide +kernel
abbrev b_Bc_init : ByteArray := prog_22_method_1_code
abbrev n_Bc_init : MethodName := ⟨"java/util/AbstractCollection", "<init>", "()V"⟩
theorem d_Bc_init_0 : decode b_Bc_init 0 = .ok (.aload_n 0, 1) := by decide +kernel
theorem d_Bc_init_1 : decode b_Bc_init 1 = .ok (.invokespecial 1, 3) := by decide +kernel
theorem d_Bc_init_4 : decode b_Bc_init 4 = .ok (.return_, 1) := by decide +kernel
abbrev b_Al_size : ByteArray := prog_24_method_8_code
abbrev n_Al_size : MethodName := ⟨"java/util/ArrayList", "size", "()I"⟩
theorem d_Al_size_0 : decode b_Al_size 0 = .ok (.aload_n 0, 1) := by decide +kernel
theorem d_Al_size_1 : decode b_Al_size 1 = .ok (.getfield 48, 3) := by decide +kernel
theorem d_Al_size_4 : decode b_Al_size 4 = .ok (.ireturn, 1) := by decide +kernel
abbrev b_Al_get : ByteArray := prog_24_method_20_code
abbrev n_Al_get : MethodName := ⟨"java/util/ArrayList", "get", "(I)Ljava/lang/Object;"⟩
theorem d_Al_get_0 : decode b_Al_get 0 = .ok (.iload_n 1, 1) := by decide +kernel
theorem d_Al_get_1 : decode b_Al_get 1 = .ok (.aload_n 0, 1) := by decide +kernel
theorem d_Al_get_2 : decode b_Al_get 2 = .ok (.getfield 48, 3) := by decide +kernel
theorem d_Al_get_5 : decode b_Al_get 5 = .ok (.invokestatic 118, 3) := by decide +kernel
theorem d_Al_get_8 : decode b_Al_get 8 = .ok (.pop, 1) := by decide +kernel
theorem d_Al_get_9 : decode b_Al_get 9 = .ok (.aload_n 0, 1) := by decide +kernel
theorem d_Al_get_10 : decode b_Al_get 10 = .ok (.iload_n 1, 1) := by decide +kernel
theorem d_Al_get_11 : decode b_Al_get 11 = .ok (.invokevirtual 123, 3) := by decide +kernel
theorem d_Al_get_14 : decode b_Al_get 14 = .ok (.areturn, 1) := by decide +kernel
abbrev b_Ob_checkIndex : ByteArray := prog_29_method_17_code
abbrev n_Ob_checkIndex : MethodName := ⟨"java/util/Objects", "checkIndex", "(II)I"⟩
theorem d_Ob_checkIndex_0 : decode b_Ob_checkIndex 0 = .ok (.iload_n 0, 1) := by decide +kernel
theorem d_Ob_checkIndex_1 : decode b_Ob_checkIndex 1 = .ok (.iload_n 1, 1) := by decide +kernel
theorem d_Ob_checkIndex_2 : decode b_Ob_checkIndex 2 = .ok (.aconst_null, 1) := by decide +kernel
theorem d_Ob_checkIndex_3 : decode b_Ob_checkIndex 3 = .ok (.invokestatic 105, 3) := by decide +kernel
theorem d_Ob_checkIndex_6 : decode b_Ob_checkIndex 6 = .ok (.ireturn, 1) := by decide +kernel
abbrev b_Pr_checkIndex : ByteArray := prog_33_method_11_code
abbrev n_Pr_checkIndex : MethodName := ⟨"jdk/internal/util/Preconditions", "checkIndex", "(IILjava/util/function/BiFunction;)I"⟩
theorem d_Pr_checkIndex_0 : decode b_Pr_checkIndex 0 = .ok (.iload_n 0, 1) := by decide +kernel
theorem d_Pr_checkIndex_1 : decode b_Pr_checkIndex 1 = .ok (.ifCond .lt 8, 3) := by decide +kernel
theorem d_Pr_checkIndex_4 : decode b_Pr_checkIndex 4 = .ok (.iload_n 0, 1) := by decide +kernel
theorem d_Pr_checkIndex_5 : decode b_Pr_checkIndex 5 = .ok (.iload_n 1, 1) := by decide +kernel
theorem d_Pr_checkIndex_6 : decode b_Pr_checkIndex 6 = .ok (.if_icmp .lt 10, 3) := by decide +kernel
theorem d_Pr_checkIndex_9 : decode b_Pr_checkIndex 9 = .ok (.aload_n 2, 1) := by decide +kernel
theorem d_Pr_checkIndex_10 : decode b_Pr_checkIndex 10 = .ok (.iload_n 0, 1) := by decide +kernel
theorem d_Pr_checkIndex_11 : decode b_Pr_checkIndex 11 = .ok (.iload_n 1, 1) := by decide +kernel
theorem d_Pr_checkIndex_12 : decode b_Pr_checkIndex 12 = .ok (.invokestatic 95, 3) := by decide +kernel
theorem d_Pr_checkIndex_15 : decode b_Pr_checkIndex 15 = .ok (.athrow, 1) := by decide +kernel
theorem d_Pr_checkIndex_16 : decode b_Pr_checkIndex 16 = .ok (.iload_n 0, 1) := by decide +kernel
theorem d_Pr_checkIndex_17 : decode b_Pr_checkIndex 17 = .ok (.ireturn, 1) := by decide +kernel
abbrev b_Al_elementData : ByteArray := prog_24_method_18_code
abbrev n_Al_elementData : MethodName := ⟨"java/util/ArrayList", "elementData", "(I)Ljava/lang/Object;"⟩
theorem d_Al_elementData_0 : decode b_Al_elementData 0 = .ok (.aload_n 0, 1) := by decide +kernel
theorem d_Al_elementData_1 : decode b_Al_elementData 1 = .ok (.getfield 9, 3) := by decide +kernel
theorem d_Al_elementData_4 : decode b_Al_elementData 4 = .ok (.iload_n 1, 1) := by decide +kernel
theorem d_Al_elementData_5 : decode b_Al_elementData 5 = .ok (.aaload, 1) := by decide +kernel
theorem d_Al_elementData_6 : decode b_Al_elementData 6 = .ok (.areturn, 1) := by decide +kernel
abbrev b_Al_add : ByteArray := prog_24_method_25_code
abbrev n_Al_add : MethodName := ⟨"java/util/ArrayList", "add", "(Ljava/lang/Object;)Z"⟩
theorem d_Al_add_0 : decode b_Al_add 0 = .ok (.aload_n 0, 1) := by decide +kernel
theorem d_Al_add_1 : decode b_Al_add 1 = .ok (.dup, 1) := by decide +kernel
theorem d_Al_add_2 : decode b_Al_add 2 = .ok (.getfield 63, 3) := by decide +kernel
theorem d_Al_add_5 : decode b_Al_add 5 = .ok (.iconst 1, 1) := by decide +kernel
theorem d_Al_add_6 : decode b_Al_add 6 = .ok (.iadd, 1) := by decide +kernel
theorem d_Al_add_7 : decode b_Al_add 7 = .ok (.putfield 63, 3) := by decide +kernel
theorem d_Al_add_10 : decode b_Al_add 10 = .ok (.aload_n 0, 1) := by decide +kernel
theorem d_Al_add_11 : decode b_Al_add 11 = .ok (.aload_n 1, 1) := by decide +kernel
theorem d_Al_add_12 : decode b_Al_add 12 = .ok (.aload_n 0, 1) := by decide +kernel
theorem d_Al_add_13 : decode b_Al_add 13 = .ok (.getfield 9, 3) := by decide +kernel
theorem d_Al_add_16 : decode b_Al_add 16 = .ok (.aload_n 0, 1) := by decide +kernel
theorem d_Al_add_17 : decode b_Al_add 17 = .ok (.getfield 48, 3) := by decide +kernel
theorem d_Al_add_20 : decode b_Al_add 20 = .ok (.invokevirtual 131, 3) := by decide +kernel
theorem d_Al_add_23 : decode b_Al_add 23 = .ok (.iconst 1, 1) := by decide +kernel
theorem d_Al_add_24 : decode b_Al_add 24 = .ok (.ireturn, 1) := by decide +kernel
abbrev b_Al_add2 : ByteArray := prog_24_method_24_code
abbrev n_Al_add2 : MethodName := ⟨"java/util/ArrayList", "add", "(Ljava/lang/Object;[Ljava/lang/Object;I)V"⟩
theorem d_Al_add2_0 : decode b_Al_add2 0 = .ok (.iload_n 3, 1) := by decide +kernel
theorem d_Al_add2_1 : decode b_Al_add2 1 = .ok (.aload_n 2, 1) := by decide +kernel
theorem d_Al_add2_2 : decode b_Al_add2 2 = .ok (.arraylength, 1) := by decide +kernel
theorem d_Al_add2_3 : decode b_Al_add2 3 = .ok (.if_icmp .ne 8, 3) := by decide +kernel
theorem d_Al_add2_6 : decode b_Al_add2 6 = .ok (.aload_n 0, 1) := by decide +kernel
theorem d_Al_add2_7 : decode b_Al_add2 7 = .ok (.invokevirtual 129, 3) := by decide +kernel
theorem d_Al_add2_10 : decode b_Al_add2 10 = .ok (.astore_n 2, 1) := by decide +kernel
theorem d_Al_add2_11 : decode b_Al_add2 11 = .ok (.aload_n 2, 1) := by decide +kernel
theorem d_Al_add2_12 : decode b_Al_add2 12 = .ok (.iload_n 3, 1) := by decide +kernel
theorem d_Al_add2_13 : decode b_Al_add2 13 = .ok (.aload_n 1, 1) := by decide +kernel
theorem d_Al_add2_14 : decode b_Al_add2 14 = .ok (.aastore, 1) := by decide +kernel
theorem d_Al_add2_15 : decode b_Al_add2 15 = .ok (.aload_n 0, 1) := by decide +kernel
theorem d_Al_add2_16 : decode b_Al_add2 16 = .ok (.iload_n 3, 1) := by decide +kernel
theorem d_Al_add2_17 : decode b_Al_add2 17 = .ok (.iconst 1, 1) := by decide +kernel
theorem d_Al_add2_18 : decode b_Al_add2 18 = .ok (.iadd, 1) := by decide +kernel
theorem d_Al_add2_19 : decode b_Al_add2 19 = .ok (.putfield 48, 3) := by decide +kernel
theorem d_Al_add2_22 : decode b_Al_add2 22 = .ok (.return_, 1) := by decide +kernel
abbrev b_Al_grow : ByteArray := prog_24_method_7_code
abbrev n_Al_grow : MethodName := ⟨"java/util/ArrayList", "grow", "()[Ljava/lang/Object;"⟩
theorem d_Al_grow_0 : decode b_Al_grow 0 = .ok (.aload_n 0, 1) := by decide +kernel
theorem d_Al_grow_1 : decode b_Al_grow 1 = .ok (.aload_n 0, 1) := by decide +kernel
theorem d_Al_grow_2 : decode b_Al_grow 2 = .ok (.getfield 48, 3) := by decide +kernel
theorem d_Al_grow_5 : decode b_Al_grow 5 = .ok (.iconst 1, 1) := by decide +kernel
theorem d_Al_grow_6 : decode b_Al_grow 6 = .ok (.iadd, 1) := by decide +kernel
theorem d_Al_grow_7 : decode b_Al_grow 7 = .ok (.invokevirtual 69, 3) := by decide +kernel
theorem d_Al_grow_10 : decode b_Al_grow 10 = .ok (.areturn, 1) := by decide +kernel
abbrev b_Al_grow2 : ByteArray := prog_24_method_6_code
abbrev n_Al_grow2 : MethodName := ⟨"java/util/ArrayList", "grow", "(I)[Ljava/lang/Object;"⟩
theorem d_Al_grow2_0 : decode b_Al_grow2 0 = .ok (.aload_n 0, 1) := by decide +kernel
theorem d_Al_grow2_1 : decode b_Al_grow2 1 = .ok (.getfield 9, 3) := by decide +kernel
theorem d_Al_grow2_4 : decode b_Al_grow2 4 = .ok (.arraylength, 1) := by decide +kernel
theorem d_Al_grow2_5 : decode b_Al_grow2 5 = .ok (.istore_n 2, 1) := by decide +kernel
theorem d_Al_grow2_6 : decode b_Al_grow2 6 = .ok (.iload_n 2, 1) := by decide +kernel
theorem d_Al_grow2_7 : decode b_Al_grow2 7 = .ok (.ifCond .gt 13, 3) := by decide +kernel
theorem d_Al_grow2_10 : decode b_Al_grow2 10 = .ok (.aload_n 0, 1) := by decide +kernel
theorem d_Al_grow2_11 : decode b_Al_grow2 11 = .ok (.getfield 9, 3) := by decide +kernel
theorem d_Al_grow2_14 : decode b_Al_grow2 14 = .ok (.getstatic 39, 3) := by decide +kernel
theorem d_Al_grow2_17 : decode b_Al_grow2 17 = .ok (.if_acmp .eq 28, 3) := by decide +kernel
theorem d_Al_grow2_20 : decode b_Al_grow2 20 = .ok (.iload_n 2, 1) := by decide +kernel
theorem d_Al_grow2_21 : decode b_Al_grow2 21 = .ok (.iload_n 1, 1) := by decide +kernel
theorem d_Al_grow2_22 : decode b_Al_grow2 22 = .ok (.iload_n 2, 1) := by decide +kernel
theorem d_Al_grow2_23 : decode b_Al_grow2 23 = .ok (.isub, 1) := by decide +kernel
theorem d_Al_grow2_24 : decode b_Al_grow2 24 = .ok (.iload_n 2, 1) := by decide +kernel
theorem d_Al_grow2_25 : decode b_Al_grow2 25 = .ok (.iconst 1, 1) := by decide +kernel
theorem d_Al_grow2_26 : decode b_Al_grow2 26 = .ok (.ishr, 1) := by decide +kernel
theorem d_Al_grow2_27 : decode b_Al_grow2 27 = .ok (.invokestatic 73, 3) := by decide +kernel
theorem d_Al_grow2_30 : decode b_Al_grow2 30 = .ok (.istore_n 3, 1) := by decide +kernel
theorem d_Al_grow2_31 : decode b_Al_grow2 31 = .ok (.aload_n 0, 1) := by decide +kernel
theorem d_Al_grow2_32 : decode b_Al_grow2 32 = .ok (.aload_n 0, 1) := by decide +kernel
theorem d_Al_grow2_33 : decode b_Al_grow2 33 = .ok (.getfield 9, 3) := by decide +kernel
theorem d_Al_grow2_36 : decode b_Al_grow2 36 = .ok (.iload_n 3, 1) := by decide +kernel
theorem d_Al_grow2_37 : decode b_Al_grow2 37 = .ok (.invokestatic 66, 3) := by decide +kernel
theorem d_Al_grow2_40 : decode b_Al_grow2 40 = .ok (.dup_x1, 1) := by decide +kernel
theorem d_Al_grow2_41 : decode b_Al_grow2 41 = .ok (.putfield 9, 3) := by decide +kernel
theorem d_Al_grow2_44 : decode b_Al_grow2 44 = .ok (.areturn, 1) := by decide +kernel
theorem d_Al_grow2_45 : decode b_Al_grow2 45 = .ok (.aload_n 0, 1) := by decide +kernel
theorem d_Al_grow2_46 : decode b_Al_grow2 46 = .ok (.bipush 10, 2) := by decide +kernel
theorem d_Al_grow2_48 : decode b_Al_grow2 48 = .ok (.iload_n 1, 1) := by decide +kernel
theorem d_Al_grow2_49 : decode b_Al_grow2 49 = .ok (.invokestatic 79, 3) := by decide +kernel
theorem d_Al_grow2_52 : decode b_Al_grow2 52 = .ok (.anewarray 7, 3) := by decide +kernel
theorem d_Al_grow2_55 : decode b_Al_grow2 55 = .ok (.dup_x1, 1) := by decide +kernel
theorem d_Al_grow2_56 : decode b_Al_grow2 56 = .ok (.putfield 9, 3) := by decide +kernel
theorem d_Al_grow2_59 : decode b_Al_grow2 59 = .ok (.areturn, 1) := by decide +kernel
abbrev b_Au_newLength : ByteArray := prog_32_method_27_code
abbrev n_Au_newLength : MethodName := ⟨"jdk/internal/util/ArraysSupport", "newLength", "(III)I"⟩
theorem d_Au_newLength_0 : decode b_Au_newLength 0 = .ok (.iload_n 0, 1) := by decide +kernel
theorem d_Au_newLength_1 : decode b_Au_newLength 1 = .ok (.iload_n 1, 1) := by decide +kernel
theorem d_Au_newLength_2 : decode b_Au_newLength 2 = .ok (.iload_n 2, 1) := by decide +kernel
theorem d_Au_newLength_3 : decode b_Au_newLength 3 = .ok (.invokestatic 194, 3) := by decide +kernel
theorem d_Au_newLength_6 : decode b_Au_newLength 6 = .ok (.iadd, 1) := by decide +kernel
theorem d_Au_newLength_7 : decode b_Au_newLength 7 = .ok (.istore_n 3, 1) := by decide +kernel
theorem d_Au_newLength_8 : decode b_Au_newLength 8 = .ok (.iconst 0, 1) := by decide +kernel
theorem d_Au_newLength_9 : decode b_Au_newLength 9 = .ok (.iload_n 3, 1) := by decide +kernel
theorem d_Au_newLength_10 : decode b_Au_newLength 10 = .ok (.if_icmp .ge 11, 3) := by decide +kernel
theorem d_Au_newLength_13 : decode b_Au_newLength 13 = .ok (.iload_n 3, 1) := by decide +kernel
theorem d_Au_newLength_14 : decode b_Au_newLength 14 = .ok (.ldc 200, 2) := by decide +kernel
theorem d_Au_newLength_16 : decode b_Au_newLength 16 = .ok (.if_icmp .gt 5, 3) := by decide +kernel
theorem d_Au_newLength_19 : decode b_Au_newLength 19 = .ok (.iload_n 3, 1) := by decide +kernel
theorem d_Au_newLength_20 : decode b_Au_newLength 20 = .ok (.ireturn, 1) := by decide +kernel
theorem d_Au_newLength_21 : decode b_Au_newLength 21 = .ok (.iload_n 0, 1) := by decide +kernel
theorem d_Au_newLength_22 : decode b_Au_newLength 22 = .ok (.iload_n 1, 1) := by decide +kernel
theorem d_Au_newLength_23 : decode b_Au_newLength 23 = .ok (.invokestatic 201, 3) := by decide +kernel
theorem d_Au_newLength_26 : decode b_Au_newLength 26 = .ok (.ireturn, 1) := by decide +kernel
abbrev b_Ma_max : ByteArray := prog_16_method_65_code
abbrev n_Ma_max : MethodName := ⟨"java/lang/Math", "max", "(II)I"⟩
theorem d_Ma_max_0 : decode b_Ma_max 0 = .ok (.iload_n 0, 1) := by decide +kernel
theorem d_Ma_max_1 : decode b_Ma_max 1 = .ok (.iload_n 1, 1) := by decide +kernel
theorem d_Ma_max_2 : decode b_Ma_max 2 = .ok (.if_icmp .lt 7, 3) := by decide +kernel
theorem d_Ma_max_5 : decode b_Ma_max 5 = .ok (.iload_n 0, 1) := by decide +kernel
theorem d_Ma_max_6 : decode b_Ma_max 6 = .ok (.goto 4, 3) := by decide +kernel
theorem d_Ma_max_9 : decode b_Ma_max 9 = .ok (.iload_n 1, 1) := by decide +kernel
theorem d_Ma_max_10 : decode b_Ma_max 10 = .ok (.ireturn, 1) := by decide +kernel
abbrev b_Au_hugeLength : ByteArray := prog_32_method_28_code
abbrev n_Au_hugeLength : MethodName := ⟨"jdk/internal/util/ArraysSupport", "hugeLength", "(II)I"⟩
theorem d_Au_hugeLength_0 : decode b_Au_hugeLength 0 = .ok (.iload_n 0, 1) := by decide +kernel
theorem d_Au_hugeLength_1 : decode b_Au_hugeLength 1 = .ok (.iload_n 1, 1) := by decide +kernel
theorem d_Au_hugeLength_2 : decode b_Au_hugeLength 2 = .ok (.iadd, 1) := by decide +kernel
theorem d_Au_hugeLength_3 : decode b_Au_hugeLength 3 = .ok (.istore_n 2, 1) := by decide +kernel
theorem d_Au_hugeLength_4 : decode b_Au_hugeLength 4 = .ok (.iload_n 2, 1) := by decide +kernel
theorem d_Au_hugeLength_5 : decode b_Au_hugeLength 5 = .ok (.ifCond .ge 44, 3) := by decide +kernel
theorem d_Au_hugeLength_8 : decode b_Au_hugeLength 8 = .ok (.new 204, 3) := by decide +kernel
theorem d_Au_hugeLength_11 : decode b_Au_hugeLength 11 = .ok (.dup, 1) := by decide +kernel
theorem d_Au_hugeLength_12 : decode b_Au_hugeLength 12 = .ok (.new 89, 3) := by decide +kernel
theorem d_Au_hugeLength_15 : decode b_Au_hugeLength 15 = .ok (.dup, 1) := by decide +kernel
theorem d_Au_hugeLength_16 : decode b_Au_hugeLength 16 = .ok (.invokespecial 91, 3) := by decide +kernel
theorem d_Au_hugeLength_19 : decode b_Au_hugeLength 19 = .ok (.ldc 206, 2) := by decide +kernel
theorem d_Au_hugeLength_21 : decode b_Au_hugeLength 21 = .ok (.invokevirtual 94, 3) := by decide +kernel
theorem d_Au_hugeLength_24 : decode b_Au_hugeLength 24 = .ok (.iload_n 0, 1) := by decide +kernel
theorem d_Au_hugeLength_25 : decode b_Au_hugeLength 25 = .ok (.invokevirtual 98, 3) := by decide +kernel
theorem d_Au_hugeLength_28 : decode b_Au_hugeLength 28 = .ok (.ldc 208, 2) := by decide +kernel
theorem d_Au_hugeLength_30 : decode b_Au_hugeLength 30 = .ok (.invokevirtual 94, 3) := by decide +kernel
theorem d_Au_hugeLength_33 : decode b_Au_hugeLength 33 = .ok (.iload_n 1, 1) := by decide +kernel
theorem d_Au_hugeLength_34 : decode b_Au_hugeLength 34 = .ok (.invokevirtual 98, 3) := by decide +kernel
theorem d_Au_hugeLength_37 : decode b_Au_hugeLength 37 = .ok (.ldc 210, 2) := by decide +kernel
theorem d_Au_hugeLength_39 : decode b_Au_hugeLength 39 = .ok (.invokevirtual 94, 3) := by decide +kernel
theorem d_Au_hugeLength_42 : decode b_Au_hugeLength 42 = .ok (.invokevirtual 101, 3) := by decide +kernel
theorem d_Au_hugeLength_45 : decode b_Au_hugeLength 45 = .ok (.invokespecial 212, 3) := by decide +kernel
theorem d_Au_hugeLength_48 : decode b_Au_hugeLength 48 = .ok (.athrow, 1) := by decide +kernel
theorem d_Au_hugeLength_49 : decode b_Au_hugeLength 49 = .ok (.iload_n 2, 1) := by decide +kernel
theorem d_Au_hugeLength_50 : decode b_Au_hugeLength 50 = .ok (.ldc 200, 2) := by decide +kernel
theorem d_Au_hugeLength_52 : decode b_Au_hugeLength 52 = .ok (.if_icmp .gt 6, 3) := by decide +kernel
theorem d_Au_hugeLength_55 : decode b_Au_hugeLength 55 = .ok (.ldc 200, 2) := by decide +kernel
theorem d_Au_hugeLength_57 : decode b_Au_hugeLength 57 = .ok (.ireturn, 1) := by decide +kernel
theorem d_Au_hugeLength_58 : decode b_Au_hugeLength 58 = .ok (.iload_n 2, 1) := by decide +kernel
theorem d_Au_hugeLength_59 : decode b_Au_hugeLength 59 = .ok (.ireturn, 1) := by decide +kernel
abbrev b_As_copyOf : ByteArray := prog_25_method_119_code
abbrev n_As_copyOf : MethodName := ⟨"java/util/Arrays", "copyOf", "([Ljava/lang/Object;I)[Ljava/lang/Object;"⟩
theorem d_As_copyOf_0 : decode b_As_copyOf 0 = .ok (.aload_n 0, 1) := by decide +kernel
theorem d_As_copyOf_1 : decode b_As_copyOf 1 = .ok (.iload_n 1, 1) := by decide +kernel
theorem d_As_copyOf_2 : decode b_As_copyOf 2 = .ok (.aload_n 0, 1) := by decide +kernel
theorem d_As_copyOf_3 : decode b_As_copyOf 3 = .ok (.invokevirtual 86, 3) := by decide +kernel
theorem d_As_copyOf_6 : decode b_As_copyOf 6 = .ok (.invokestatic 300, 3) := by decide +kernel
theorem d_As_copyOf_9 : decode b_As_copyOf 9 = .ok (.areturn, 1) := by decide +kernel
abbrev b_As_copyOf2 : ByteArray := prog_25_method_120_code
abbrev n_As_copyOf2 : MethodName := ⟨"java/util/Arrays", "copyOf", "([Ljava/lang/Object;ILjava/lang/Class;)[Ljava/lang/Object;"⟩
theorem d_As_copyOf2_0 : decode b_As_copyOf2 0 = .ok (.aload_n 2, 1) := by decide +kernel
theorem d_As_copyOf2_1 : decode b_As_copyOf2 1 = .ok (.ldc 110, 2) := by decide +kernel
theorem d_As_copyOf2_3 : decode b_As_copyOf2 3 = .ok (.if_acmp .ne 10, 3) := by decide +kernel
theorem d_As_copyOf2_6 : decode b_As_copyOf2 6 = .ok (.iload_n 1, 1) := by decide +kernel
theorem d_As_copyOf2_7 : decode b_As_copyOf2 7 = .ok (.anewarray 2, 3) := by decide +kernel
theorem d_As_copyOf2_10 : decode b_As_copyOf2 10 = .ok (.goto 14, 3) := by decide +kernel
theorem d_As_copyOf2_13 : decode b_As_copyOf2 13 = .ok (.aload_n 2, 1) := by decide +kernel
theorem d_As_copyOf2_14 : decode b_As_copyOf2 14 = .ok (.invokevirtual 90, 3) := by decide +kernel
theorem d_As_copyOf2_17 : decode b_As_copyOf2 17 = .ok (.iload_n 1, 1) := by decide +kernel
theorem d_As_copyOf2_18 : decode b_As_copyOf2 18 = .ok (.invokestatic 95, 3) := by decide +kernel
theorem d_As_copyOf2_21 : decode b_As_copyOf2 21 = .ok (.checkcast 110, 3) := by decide +kernel
theorem d_As_copyOf2_24 : decode b_As_copyOf2 24 = .ok (.astore_n 3, 1) := by decide +kernel
theorem d_As_copyOf2_25 : decode b_As_copyOf2 25 = .ok (.aload_n 0, 1) := by decide +kernel
theorem d_As_copyOf2_26 : decode b_As_copyOf2 26 = .ok (.iconst 0, 1) := by decide +kernel
theorem d_As_copyOf2_27 : decode b_As_copyOf2 27 = .ok (.aload_n 3, 1) := by decide +kernel
theorem d_As_copyOf2_28 : decode b_As_copyOf2 28 = .ok (.iconst 0, 1) := by decide +kernel
theorem d_As_copyOf2_29 : decode b_As_copyOf2 29 = .ok (.aload_n 0, 1) := by decide +kernel
theorem d_As_copyOf2_30 : decode b_As_copyOf2 30 = .ok (.arraylength, 1) := by decide +kernel
theorem d_As_copyOf2_31 : decode b_As_copyOf2 31 = .ok (.iload_n 1, 1) := by decide +kernel
theorem d_As_copyOf2_32 : decode b_As_copyOf2 32 = .ok (.invokestatic 304, 3) := by decide +kernel
theorem d_As_copyOf2_35 : decode b_As_copyOf2 35 = .ok (.invokestatic 150, 3) := by decide +kernel
theorem d_As_copyOf2_38 : decode b_As_copyOf2 38 = .ok (.aload_n 3, 1) := by decide +kernel
theorem d_As_copyOf2_39 : decode b_As_copyOf2 39 = .ok (.areturn, 1) := by decide +kernel
abbrev b_Ma_min : ByteArray := prog_16_method_69_code
abbrev n_Ma_min : MethodName := ⟨"java/lang/Math", "min", "(II)I"⟩
theorem d_Ma_min_0 : decode b_Ma_min 0 = .ok (.iload_n 0, 1) := by decide +kernel
theorem d_Ma_min_1 : decode b_Ma_min 1 = .ok (.iload_n 1, 1) := by decide +kernel
theorem d_Ma_min_2 : decode b_Ma_min 2 = .ok (.if_icmp .gt 7, 3) := by decide +kernel
theorem d_Ma_min_5 : decode b_Ma_min 5 = .ok (.iload_n 0, 1) := by decide +kernel
theorem d_Ma_min_6 : decode b_Ma_min 6 = .ok (.goto 4, 3) := by decide +kernel
theorem d_Ma_min_9 : decode b_Ma_min 9 = .ok (.iload_n 1, 1) := by decide +kernel
theorem d_Ma_min_10 : decode b_Ma_min 10 = .ok (.ireturn, 1) := by decide +kernel
abbrev b_Al_set : ByteArray := prog_24_method_23_code
abbrev n_Al_set : MethodName := ⟨"java/util/ArrayList", "set", "(ILjava/lang/Object;)Ljava/lang/Object;"⟩
theorem d_Al_set_0 : decode b_Al_set 0 = .ok (.iload_n 1, 1) := by decide +kernel
theorem d_Al_set_1 : decode b_Al_set 1 = .ok (.aload_n 0, 1) := by decide +kernel
theorem d_Al_set_2 : decode b_Al_set 2 = .ok (.getfield 48, 3) := by decide +kernel
theorem d_Al_set_5 : decode b_Al_set 5 = .ok (.invokestatic 118, 3) := by decide +kernel
theorem d_Al_set_8 : decode b_Al_set 8 = .ok (.pop, 1) := by decide +kernel
theorem d_Al_set_9 : decode b_Al_set 9 = .ok (.aload_n 0, 1) := by decide +kernel
theorem d_Al_set_10 : decode b_Al_set 10 = .ok (.iload_n 1, 1) := by decide +kernel
theorem d_Al_set_11 : decode b_Al_set 11 = .ok (.invokevirtual 123, 3) := by decide +kernel
theorem d_Al_set_14 : decode b_Al_set 14 = .ok (.astore_n 3, 1) := by decide +kernel
theorem d_Al_set_15 : decode b_Al_set 15 = .ok (.aload_n 0, 1) := by decide +kernel
theorem d_Al_set_16 : decode b_Al_set 16 = .ok (.getfield 9, 3) := by decide +kernel
theorem d_Al_set_19 : decode b_Al_set 19 = .ok (.iload_n 1, 1) := by decide +kernel
theorem d_Al_set_20 : decode b_Al_set 20 = .ok (.aload_n 2, 1) := by decide +kernel
theorem d_Al_set_21 : decode b_Al_set 21 = .ok (.aastore, 1) := by decide +kernel
theorem d_Al_set_22 : decode b_Al_set 22 = .ok (.aload_n 3, 1) := by decide +kernel
theorem d_Al_set_23 : decode b_Al_set 23 = .ok (.areturn, 1) := by decide +kernel
abbrev b_Al_remove : ByteArray := prog_24_method_29_code
abbrev n_Al_remove : MethodName := ⟨"java/util/ArrayList", "remove", "(I)Ljava/lang/Object;"⟩
theorem d_Al_remove_0 : decode b_Al_remove 0 = .ok (.iload_n 1, 1) := by decide +kernel
theorem d_Al_remove_1 : decode b_Al_remove 1 = .ok (.aload_n 0, 1) := by decide +kernel
theorem d_Al_remove_2 : decode b_Al_remove 2 = .ok (.getfield 48, 3) := by decide +kernel
theorem d_Al_remove_5 : decode b_Al_remove 5 = .ok (.invokestatic 118, 3) := by decide +kernel
theorem d_Al_remove_8 : decode b_Al_remove 8 = .ok (.pop, 1) := by decide +kernel
theorem d_Al_remove_9 : decode b_Al_remove 9 = .ok (.aload_n 0, 1) := by decide +kernel
theorem d_Al_remove_10 : decode b_Al_remove 10 = .ok (.getfield 9, 3) := by decide +kernel
theorem d_Al_remove_13 : decode b_Al_remove 13 = .ok (.astore_n 2, 1) := by decide +kernel
theorem d_Al_remove_14 : decode b_Al_remove 14 = .ok (.aload_n 2, 1) := by decide +kernel
theorem d_Al_remove_15 : decode b_Al_remove 15 = .ok (.iload_n 1, 1) := by decide +kernel
theorem d_Al_remove_16 : decode b_Al_remove 16 = .ok (.aaload, 1) := by decide +kernel
theorem d_Al_remove_17 : decode b_Al_remove 17 = .ok (.astore_n 3, 1) := by decide +kernel
theorem d_Al_remove_18 : decode b_Al_remove 18 = .ok (.aload_n 0, 1) := by decide +kernel
theorem d_Al_remove_19 : decode b_Al_remove 19 = .ok (.aload_n 2, 1) := by decide +kernel
theorem d_Al_remove_20 : decode b_Al_remove 20 = .ok (.iload_n 1, 1) := by decide +kernel
theorem d_Al_remove_21 : decode b_Al_remove 21 = .ok (.invokevirtual 144, 3) := by decide +kernel
theorem d_Al_remove_24 : decode b_Al_remove 24 = .ok (.aload_n 3, 1) := by decide +kernel
theorem d_Al_remove_25 : decode b_Al_remove 25 = .ok (.areturn, 1) := by decide +kernel
abbrev b_Al_fastRemove : ByteArray := prog_24_method_39_code
abbrev n_Al_fastRemove : MethodName := ⟨"java/util/ArrayList", "fastRemove", "([Ljava/lang/Object;I)V"⟩
theorem d_Al_fastRemove_0 : decode b_Al_fastRemove 0 = .ok (.aload_n 0, 1) := by decide +kernel
theorem d_Al_fastRemove_1 : decode b_Al_fastRemove 1 = .ok (.dup, 1) := by decide +kernel
theorem d_Al_fastRemove_2 : decode b_Al_fastRemove 2 = .ok (.getfield 63, 3) := by decide +kernel
theorem d_Al_fastRemove_5 : decode b_Al_fastRemove 5 = .ok (.iconst 1, 1) := by decide +kernel
theorem d_Al_fastRemove_6 : decode b_Al_fastRemove 6 = .ok (.iadd, 1) := by decide +kernel
theorem d_Al_fastRemove_7 : decode b_Al_fastRemove 7 = .ok (.putfield 63, 3) := by decide +kernel
theorem d_Al_fastRemove_10 : decode b_Al_fastRemove 10 = .ok (.aload_n 0, 1) := by decide +kernel
theorem d_Al_fastRemove_11 : decode b_Al_fastRemove 11 = .ok (.getfield 48, 3) := by decide +kernel
theorem d_Al_fastRemove_14 : decode b_Al_fastRemove 14 = .ok (.iconst 1, 1) := by decide +kernel
theorem d_Al_fastRemove_15 : decode b_Al_fastRemove 15 = .ok (.isub, 1) := by decide +kernel
theorem d_Al_fastRemove_16 : decode b_Al_fastRemove 16 = .ok (.dup, 1) := by decide +kernel
theorem d_Al_fastRemove_17 : decode b_Al_fastRemove 17 = .ok (.istore_n 3, 1) := by decide +kernel
theorem d_Al_fastRemove_18 : decode b_Al_fastRemove 18 = .ok (.iload_n 2, 1) := by decide +kernel
theorem d_Al_fastRemove_19 : decode b_Al_fastRemove 19 = .ok (.if_icmp .le 15, 3) := by decide +kernel
theorem d_Al_fastRemove_22 : decode b_Al_fastRemove 22 = .ok (.aload_n 1, 1) := by decide +kernel
theorem d_Al_fastRemove_23 : decode b_Al_fastRemove 23 = .ok (.iload_n 2, 1) := by decide +kernel
theorem d_Al_fastRemove_24 : decode b_Al_fastRemove 24 = .ok (.iconst 1, 1) := by decide +kernel
theorem d_Al_fastRemove_25 : decode b_Al_fastRemove 25 = .ok (.iadd, 1) := by decide +kernel
theorem d_Al_fastRemove_26 : decode b_Al_fastRemove 26 = .ok (.aload_n 1, 1) := by decide +kernel
theorem d_Al_fastRemove_27 : decode b_Al_fastRemove 27 = .ok (.iload_n 2, 1) := by decide +kernel
theorem d_Al_fastRemove_28 : decode b_Al_fastRemove 28 = .ok (.iload_n 3, 1) := by decide +kernel
theorem d_Al_fastRemove_29 : decode b_Al_fastRemove 29 = .ok (.iload_n 2, 1) := by decide +kernel
theorem d_Al_fastRemove_30 : decode b_Al_fastRemove 30 = .ok (.isub, 1) := by decide +kernel
theorem d_Al_fastRemove_31 : decode b_Al_fastRemove 31 = .ok (.invokestatic 112, 3) := by decide +kernel
theorem d_Al_fastRemove_34 : decode b_Al_fastRemove 34 = .ok (.aload_n 1, 1) := by decide +kernel
theorem d_Al_fastRemove_35 : decode b_Al_fastRemove 35 = .ok (.aload_n 0, 1) := by decide +kernel
theorem d_Al_fastRemove_36 : decode b_Al_fastRemove 36 = .ok (.iload_n 3, 1) := by decide +kernel
theorem d_Al_fastRemove_37 : decode b_Al_fastRemove 37 = .ok (.dup_x1, 1) := by decide +kernel
theorem d_Al_fastRemove_38 : decode b_Al_fastRemove 38 = .ok (.putfield 48, 3) := by decide +kernel
theorem d_Al_fastRemove_41 : decode b_Al_fastRemove 41 = .ok (.aconst_null, 1) := by decide +kernel
theorem d_Al_fastRemove_42 : decode b_Al_fastRemove 42 = .ok (.aastore, 1) := by decide +kernel
theorem d_Al_fastRemove_43 : decode b_Al_fastRemove 43 = .ok (.return_, 1) := by decide +kernel
