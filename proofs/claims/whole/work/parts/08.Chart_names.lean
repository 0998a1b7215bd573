abbrev b_Chart_init : ByteArray := prog_2_method_1_code
def y_Chart_init : MethodName := ⟨"SyntaxTrees$Chart", "<init>", "(LSyntaxTrees$Symbols;LSyntaxTrees$Rules;LSyntaxTrees$Row;)V"⟩
def w_Chart_init : List Cond := .code y_Chart_init b_Chart_init 4 none :: TBL
theorem hd_Chart_init : y_Chart_init.cls = "SyntaxTrees$Chart" ∧ y_Chart_init.cls ≠ "java/lang/invoke/MethodHandle" ∧ y_Chart_init.cls ≠ "java/lang/invoke/VarHandle" ∧ (parseMethodDescriptor y_Chart_init.desc).map (fun d => d.parameters.length) = some 3 := by decide +kernel
theorem d_Chart_init_0 : decode b_Chart_init 0 = .ok (.aload_n 0, 1) := by decide +kernel
theorem d_Chart_init_1 : decode b_Chart_init 1 = .ok (.invokespecial 3, 3) := by decide +kernel
theorem d_Chart_init_4 : decode b_Chart_init 4 = .ok (.aload_n 0, 1) := by decide +kernel
theorem d_Chart_init_5 : decode b_Chart_init 5 = .ok (.sipush 6000, 3) := by decide +kernel
theorem d_Chart_init_8 : decode b_Chart_init 8 = .ok (.newarray .long, 2) := by decide +kernel
theorem d_Chart_init_10 : decode b_Chart_init 10 = .ok (.putfield 9, 3) := by decide +kernel
theorem d_Chart_init_13 : decode b_Chart_init 13 = .ok (.aload_n 0, 1) := by decide +kernel
theorem d_Chart_init_14 : decode b_Chart_init 14 = .ok (.sipush 6000, 3) := by decide +kernel
theorem d_Chart_init_17 : decode b_Chart_init 17 = .ok (.newarray .long, 2) := by decide +kernel
theorem d_Chart_init_19 : decode b_Chart_init 19 = .ok (.putfield 15, 3) := by decide +kernel
theorem d_Chart_init_22 : decode b_Chart_init 22 = .ok (.aload_n 0, 1) := by decide +kernel
theorem d_Chart_init_23 : decode b_Chart_init 23 = .ok (.bipush 100, 2) := by decide +kernel
theorem d_Chart_init_25 : decode b_Chart_init 25 = .ok (.newarray .long, 2) := by decide +kernel
theorem d_Chart_init_27 : decode b_Chart_init 27 = .ok (.putfield 18, 3) := by decide +kernel
theorem d_Chart_init_30 : decode b_Chart_init 30 = .ok (.aload_n 0, 1) := by decide +kernel
theorem d_Chart_init_31 : decode b_Chart_init 31 = .ok (.bipush 100, 2) := by decide +kernel
theorem d_Chart_init_33 : decode b_Chart_init 33 = .ok (.newarray .long, 2) := by decide +kernel
theorem d_Chart_init_35 : decode b_Chart_init 35 = .ok (.putfield 21, 3) := by decide +kernel
theorem d_Chart_init_38 : decode b_Chart_init 38 = .ok (.aload_n 0, 1) := by decide +kernel
theorem d_Chart_init_39 : decode b_Chart_init 39 = .ok (.sipush 30000, 3) := by decide +kernel
theorem d_Chart_init_42 : decode b_Chart_init 42 = .ok (.newarray .long, 2) := by decide +kernel
theorem d_Chart_init_44 : decode b_Chart_init 44 = .ok (.putfield 24, 3) := by decide +kernel
theorem d_Chart_init_47 : decode b_Chart_init 47 = .ok (.aload_n 0, 1) := by decide +kernel
theorem d_Chart_init_48 : decode b_Chart_init 48 = .ok (.sipush 30000, 3) := by decide +kernel
theorem d_Chart_init_51 : decode b_Chart_init 51 = .ok (.newarray .long, 2) := by decide +kernel
theorem d_Chart_init_53 : decode b_Chart_init 53 = .ok (.putfield 27, 3) := by decide +kernel
theorem d_Chart_init_56 : decode b_Chart_init 56 = .ok (.aload_n 0, 1) := by decide +kernel
theorem d_Chart_init_57 : decode b_Chart_init 57 = .ok (.bipush 100, 2) := by decide +kernel
theorem d_Chart_init_59 : decode b_Chart_init 59 = .ok (.newarray .int, 2) := by decide +kernel
theorem d_Chart_init_61 : decode b_Chart_init 61 = .ok (.putfield 30, 3) := by decide +kernel
theorem d_Chart_init_64 : decode b_Chart_init 64 = .ok (.aload_n 0, 1) := by decide +kernel
theorem d_Chart_init_65 : decode b_Chart_init 65 = .ok (.sipush 200, 3) := by decide +kernel
theorem d_Chart_init_68 : decode b_Chart_init 68 = .ok (.newarray .int, 2) := by decide +kernel
theorem d_Chart_init_70 : decode b_Chart_init 70 = .ok (.putfield 34, 3) := by decide +kernel
theorem d_Chart_init_73 : decode b_Chart_init 73 = .ok (.aload_n 0, 1) := by decide +kernel
theorem d_Chart_init_74 : decode b_Chart_init 74 = .ok (.aload_n 1, 1) := by decide +kernel
theorem d_Chart_init_75 : decode b_Chart_init 75 = .ok (.putfield 37, 3) := by decide +kernel
theorem d_Chart_init_78 : decode b_Chart_init 78 = .ok (.aload_n 0, 1) := by decide +kernel
theorem d_Chart_init_79 : decode b_Chart_init 79 = .ok (.aload_n 2, 1) := by decide +kernel
theorem d_Chart_init_80 : decode b_Chart_init 80 = .ok (.putfield 41, 3) := by decide +kernel
theorem d_Chart_init_83 : decode b_Chart_init 83 = .ok (.aload_n 0, 1) := by decide +kernel
theorem d_Chart_init_84 : decode b_Chart_init 84 = .ok (.aload_n 3, 1) := by decide +kernel
theorem d_Chart_init_85 : decode b_Chart_init 85 = .ok (.putfield 45, 3) := by decide +kernel
theorem d_Chart_init_88 : decode b_Chart_init 88 = .ok (.return_, 1) := by decide +kernel
abbrev b_Chart_placeOf : ByteArray := prog_2_method_5_code
def y_Chart_placeOf : MethodName := ⟨"SyntaxTrees$Chart", "placeOf", "(II)I"⟩
def w_Chart_placeOf : List Cond := .code y_Chart_placeOf b_Chart_placeOf 2 (some .int) :: TBL
theorem hd_Chart_placeOf : y_Chart_placeOf.cls = "SyntaxTrees$Chart" ∧ y_Chart_placeOf.cls ≠ "java/lang/invoke/MethodHandle" ∧ y_Chart_placeOf.cls ≠ "java/lang/invoke/VarHandle" ∧ (parseMethodDescriptor y_Chart_placeOf.desc).map (fun d => d.parameters.length) = some 2 := by decide +kernel
theorem d_Chart_placeOf_0 : decode b_Chart_placeOf 0 = .ok (.iload_n 0, 1) := by decide +kernel
theorem d_Chart_placeOf_1 : decode b_Chart_placeOf 1 = .ok (.invokestatic 93, 3) := by decide +kernel
theorem d_Chart_placeOf_4 : decode b_Chart_placeOf 4 = .ok (.ifCond .eq 13, 3) := by decide +kernel
theorem d_Chart_placeOf_7 : decode b_Chart_placeOf 7 = .ok (.iload_n 1, 1) := by decide +kernel
theorem d_Chart_placeOf_8 : decode b_Chart_placeOf 8 = .ok (.ifCond .lt 9, 3) := by decide +kernel
theorem d_Chart_placeOf_11 : decode b_Chart_placeOf 11 = .ok (.iload_n 1, 1) := by decide +kernel
theorem d_Chart_placeOf_12 : decode b_Chart_placeOf 12 = .ok (.bipush 60, 2) := by decide +kernel
theorem d_Chart_placeOf_14 : decode b_Chart_placeOf 14 = .ok (.if_icmp .lt 5, 3) := by decide +kernel
theorem d_Chart_placeOf_17 : decode b_Chart_placeOf 17 = .ok (.iconst (-1), 1) := by decide +kernel
theorem d_Chart_placeOf_18 : decode b_Chart_placeOf 18 = .ok (.ireturn, 1) := by decide +kernel
theorem d_Chart_placeOf_19 : decode b_Chart_placeOf 19 = .ok (.iload_n 0, 1) := by decide +kernel
theorem d_Chart_placeOf_20 : decode b_Chart_placeOf 20 = .ok (.bipush 60, 2) := by decide +kernel
theorem d_Chart_placeOf_22 : decode b_Chart_placeOf 22 = .ok (.imul, 1) := by decide +kernel
theorem d_Chart_placeOf_23 : decode b_Chart_placeOf 23 = .ok (.iload_n 1, 1) := by decide +kernel
theorem d_Chart_placeOf_24 : decode b_Chart_placeOf 24 = .ok (.iadd, 1) := by decide +kernel
theorem d_Chart_placeOf_25 : decode b_Chart_placeOf 25 = .ok (.ireturn, 1) := by decide +kernel
abbrev b_Chart_forgetStretches : ByteArray := prog_2_method_6_code
def y_Chart_forgetStretches : MethodName := ⟨"SyntaxTrees$Chart", "forgetStretches", "()V"⟩
def w_Chart_forgetStretches : List Cond := .code y_Chart_forgetStretches b_Chart_forgetStretches 3 none :: TBL
theorem hd_Chart_forgetStretches : y_Chart_forgetStretches.cls = "SyntaxTrees$Chart" ∧ y_Chart_forgetStretches.cls ≠ "java/lang/invoke/MethodHandle" ∧ y_Chart_forgetStretches.cls ≠ "java/lang/invoke/VarHandle" ∧ (parseMethodDescriptor y_Chart_forgetStretches.desc).map (fun d => d.parameters.length) = some 0 := by decide +kernel
theorem d_Chart_forgetStretches_0 : decode b_Chart_forgetStretches 0 = .ok (.aload_n 0, 1) := by decide +kernel
theorem d_Chart_forgetStretches_1 : decode b_Chart_forgetStretches 1 = .ok (.getfield 37, 3) := by decide +kernel
theorem d_Chart_forgetStretches_4 : decode b_Chart_forgetStretches 4 = .ok (.invokevirtual 97, 3) := by decide +kernel
theorem d_Chart_forgetStretches_7 : decode b_Chart_forgetStretches 7 = .ok (.bipush 60, 2) := by decide +kernel
theorem d_Chart_forgetStretches_9 : decode b_Chart_forgetStretches 9 = .ok (.imul, 1) := by decide +kernel
theorem d_Chart_forgetStretches_10 : decode b_Chart_forgetStretches 10 = .ok (.istore_n 1, 1) := by decide +kernel
theorem d_Chart_forgetStretches_11 : decode b_Chart_forgetStretches 11 = .ok (.iconst 0, 1) := by decide +kernel
theorem d_Chart_forgetStretches_12 : decode b_Chart_forgetStretches 12 = .ok (.istore_n 2, 1) := by decide +kernel
theorem d_Chart_forgetStretches_13 : decode b_Chart_forgetStretches 13 = .ok (.iload_n 2, 1) := by decide +kernel
theorem d_Chart_forgetStretches_14 : decode b_Chart_forgetStretches 14 = .ok (.iload_n 1, 1) := by decide +kernel
theorem d_Chart_forgetStretches_15 : decode b_Chart_forgetStretches 15 = .ok (.if_icmp .ge 23, 3) := by decide +kernel
theorem d_Chart_forgetStretches_18 : decode b_Chart_forgetStretches 18 = .ok (.aload_n 0, 1) := by decide +kernel
theorem d_Chart_forgetStretches_19 : decode b_Chart_forgetStretches 19 = .ok (.getfield 9, 3) := by decide +kernel
theorem d_Chart_forgetStretches_22 : decode b_Chart_forgetStretches 22 = .ok (.iload_n 2, 1) := by decide +kernel
theorem d_Chart_forgetStretches_23 : decode b_Chart_forgetStretches 23 = .ok (.lconst 0, 1) := by decide +kernel
theorem d_Chart_forgetStretches_24 : decode b_Chart_forgetStretches 24 = .ok (.lastore, 1) := by decide +kernel
theorem d_Chart_forgetStretches_25 : decode b_Chart_forgetStretches 25 = .ok (.aload_n 0, 1) := by decide +kernel
theorem d_Chart_forgetStretches_26 : decode b_Chart_forgetStretches 26 = .ok (.getfield 15, 3) := by decide +kernel
theorem d_Chart_forgetStretches_29 : decode b_Chart_forgetStretches 29 = .ok (.iload_n 2, 1) := by decide +kernel
theorem d_Chart_forgetStretches_30 : decode b_Chart_forgetStretches 30 = .ok (.lconst 0, 1) := by decide +kernel
theorem d_Chart_forgetStretches_31 : decode b_Chart_forgetStretches 31 = .ok (.lastore, 1) := by decide +kernel
theorem d_Chart_forgetStretches_32 : decode b_Chart_forgetStretches 32 = .ok (.iinc 2 1, 3) := by decide +kernel
theorem d_Chart_forgetStretches_35 : decode b_Chart_forgetStretches 35 = .ok (.goto (-22), 3) := by decide +kernel
theorem d_Chart_forgetStretches_38 : decode b_Chart_forgetStretches 38 = .ok (.return_, 1) := by decide +kernel
abbrev b_Chart_forgetStart : ByteArray := prog_2_method_7_code
def y_Chart_forgetStart : MethodName := ⟨"SyntaxTrees$Chart", "forgetStart", "()V"⟩
def w_Chart_forgetStart : List Cond := .code y_Chart_forgetStart b_Chart_forgetStart 3 none :: TBL
theorem hd_Chart_forgetStart : y_Chart_forgetStart.cls = "SyntaxTrees$Chart" ∧ y_Chart_forgetStart.cls ≠ "java/lang/invoke/MethodHandle" ∧ y_Chart_forgetStart.cls ≠ "java/lang/invoke/VarHandle" ∧ (parseMethodDescriptor y_Chart_forgetStart.desc).map (fun d => d.parameters.length) = some 0 := by decide +kernel
theorem d_Chart_forgetStart_0 : decode b_Chart_forgetStart 0 = .ok (.iconst 0, 1) := by decide +kernel
theorem d_Chart_forgetStart_1 : decode b_Chart_forgetStart 1 = .ok (.istore_n 1, 1) := by decide +kernel
theorem d_Chart_forgetStart_2 : decode b_Chart_forgetStart 2 = .ok (.iload_n 1, 1) := by decide +kernel
theorem d_Chart_forgetStart_3 : decode b_Chart_forgetStart 3 = .ok (.aload_n 0, 1) := by decide +kernel
theorem d_Chart_forgetStart_4 : decode b_Chart_forgetStart 4 = .ok (.getfield 37, 3) := by decide +kernel
theorem d_Chart_forgetStart_7 : decode b_Chart_forgetStart 7 = .ok (.invokevirtual 97, 3) := by decide +kernel
theorem d_Chart_forgetStart_10 : decode b_Chart_forgetStart 10 = .ok (.if_icmp .ge 23, 3) := by decide +kernel
theorem d_Chart_forgetStart_13 : decode b_Chart_forgetStart 13 = .ok (.aload_n 0, 1) := by decide +kernel
theorem d_Chart_forgetStart_14 : decode b_Chart_forgetStart 14 = .ok (.getfield 18, 3) := by decide +kernel
theorem d_Chart_forgetStart_17 : decode b_Chart_forgetStart 17 = .ok (.iload_n 1, 1) := by decide +kernel
theorem d_Chart_forgetStart_18 : decode b_Chart_forgetStart 18 = .ok (.lconst 0, 1) := by decide +kernel
theorem d_Chart_forgetStart_19 : decode b_Chart_forgetStart 19 = .ok (.lastore, 1) := by decide +kernel
theorem d_Chart_forgetStart_20 : decode b_Chart_forgetStart 20 = .ok (.aload_n 0, 1) := by decide +kernel
theorem d_Chart_forgetStart_21 : decode b_Chart_forgetStart 21 = .ok (.getfield 21, 3) := by decide +kernel
theorem d_Chart_forgetStart_24 : decode b_Chart_forgetStart 24 = .ok (.iload_n 1, 1) := by decide +kernel
theorem d_Chart_forgetStart_25 : decode b_Chart_forgetStart 25 = .ok (.lconst 0, 1) := by decide +kernel
theorem d_Chart_forgetStart_26 : decode b_Chart_forgetStart 26 = .ok (.lastore, 1) := by decide +kernel
theorem d_Chart_forgetStart_27 : decode b_Chart_forgetStart 27 = .ok (.iinc 1 1, 3) := by decide +kernel
theorem d_Chart_forgetStart_30 : decode b_Chart_forgetStart 30 = .ok (.goto (-28), 3) := by decide +kernel
theorem d_Chart_forgetStart_33 : decode b_Chart_forgetStart 33 = .ok (.aload_n 0, 1) := by decide +kernel
theorem d_Chart_forgetStart_34 : decode b_Chart_forgetStart 34 = .ok (.getfield 41, 3) := by decide +kernel
theorem d_Chart_forgetStart_37 : decode b_Chart_forgetStart 37 = .ok (.aload_n 0, 1) := by decide +kernel
theorem d_Chart_forgetStart_38 : decode b_Chart_forgetStart 38 = .ok (.getfield 59, 3) := by decide +kernel
theorem d_Chart_forgetStart_41 : decode b_Chart_forgetStart 41 = .ok (.invokevirtual 101, 3) := by decide +kernel
theorem d_Chart_forgetStart_44 : decode b_Chart_forgetStart 44 = .ok (.istore_n 1, 1) := by decide +kernel
theorem d_Chart_forgetStart_45 : decode b_Chart_forgetStart 45 = .ok (.iconst 0, 1) := by decide +kernel
theorem d_Chart_forgetStart_46 : decode b_Chart_forgetStart 46 = .ok (.istore_n 2, 1) := by decide +kernel
theorem d_Chart_forgetStart_47 : decode b_Chart_forgetStart 47 = .ok (.iload_n 2, 1) := by decide +kernel
theorem d_Chart_forgetStart_48 : decode b_Chart_forgetStart 48 = .ok (.iload_n 1, 1) := by decide +kernel
theorem d_Chart_forgetStart_49 : decode b_Chart_forgetStart 49 = .ok (.if_icmp .ge 23, 3) := by decide +kernel
theorem d_Chart_forgetStart_52 : decode b_Chart_forgetStart 52 = .ok (.aload_n 0, 1) := by decide +kernel
theorem d_Chart_forgetStart_53 : decode b_Chart_forgetStart 53 = .ok (.getfield 24, 3) := by decide +kernel
theorem d_Chart_forgetStart_56 : decode b_Chart_forgetStart 56 = .ok (.iload_n 2, 1) := by decide +kernel
theorem d_Chart_forgetStart_57 : decode b_Chart_forgetStart 57 = .ok (.lconst 0, 1) := by decide +kernel
theorem d_Chart_forgetStart_58 : decode b_Chart_forgetStart 58 = .ok (.lastore, 1) := by decide +kernel
theorem d_Chart_forgetStart_59 : decode b_Chart_forgetStart 59 = .ok (.aload_n 0, 1) := by decide +kernel
theorem d_Chart_forgetStart_60 : decode b_Chart_forgetStart 60 = .ok (.getfield 27, 3) := by decide +kernel
theorem d_Chart_forgetStart_63 : decode b_Chart_forgetStart 63 = .ok (.iload_n 2, 1) := by decide +kernel
theorem d_Chart_forgetStart_64 : decode b_Chart_forgetStart 64 = .ok (.lconst 0, 1) := by decide +kernel
theorem d_Chart_forgetStart_65 : decode b_Chart_forgetStart 65 = .ok (.lastore, 1) := by decide +kernel
theorem d_Chart_forgetStart_66 : decode b_Chart_forgetStart 66 = .ok (.iinc 2 1, 3) := by decide +kernel
theorem d_Chart_forgetStart_69 : decode b_Chart_forgetStart 69 = .ok (.goto (-22), 3) := by decide +kernel
theorem d_Chart_forgetStart_72 : decode b_Chart_forgetStart 72 = .ok (.return_, 1) := by decide +kernel
abbrev b_Chart_endsOf : ByteArray := prog_2_method_12_code
def y_Chart_endsOf : MethodName := ⟨"SyntaxTrees$Chart", "endsOf", "(II)J"⟩
def w_Chart_endsOf : List Cond := .code y_Chart_endsOf b_Chart_endsOf 4 (some .long) :: TBL
theorem hd_Chart_endsOf : y_Chart_endsOf.cls = "SyntaxTrees$Chart" ∧ y_Chart_endsOf.cls ≠ "java/lang/invoke/MethodHandle" ∧ y_Chart_endsOf.cls ≠ "java/lang/invoke/VarHandle" ∧ (parseMethodDescriptor y_Chart_endsOf.desc).map (fun d => d.parameters.length) = some 2 := by decide +kernel
theorem d_Chart_endsOf_0 : decode b_Chart_endsOf 0 = .ok (.aload_n 0, 1) := by decide +kernel
theorem d_Chart_endsOf_1 : decode b_Chart_endsOf 1 = .ok (.getfield 37, 3) := by decide +kernel
theorem d_Chart_endsOf_4 : decode b_Chart_endsOf 4 = .ok (.iload_n 1, 1) := by decide +kernel
theorem d_Chart_endsOf_5 : decode b_Chart_endsOf 5 = .ok (.invokevirtual 81, 3) := by decide +kernel
theorem d_Chart_endsOf_8 : decode b_Chart_endsOf 8 = .ok (.istore_n 3, 1) := by decide +kernel
theorem d_Chart_endsOf_9 : decode b_Chart_endsOf 9 = .ok (.iload_n 3, 1) := by decide +kernel
theorem d_Chart_endsOf_10 : decode b_Chart_endsOf 10 = .ok (.invokestatic 93, 3) := by decide +kernel
theorem d_Chart_endsOf_13 : decode b_Chart_endsOf 13 = .ok (.ifCond .eq 10, 3) := by decide +kernel
theorem d_Chart_endsOf_16 : decode b_Chart_endsOf 16 = .ok (.aload_n 0, 1) := by decide +kernel
theorem d_Chart_endsOf_17 : decode b_Chart_endsOf 17 = .ok (.getfield 18, 3) := by decide +kernel
theorem d_Chart_endsOf_20 : decode b_Chart_endsOf 20 = .ok (.iload_n 3, 1) := by decide +kernel
theorem d_Chart_endsOf_21 : decode b_Chart_endsOf 21 = .ok (.laload, 1) := by decide +kernel
theorem d_Chart_endsOf_22 : decode b_Chart_endsOf 22 = .ok (.lreturn, 1) := by decide +kernel
theorem d_Chart_endsOf_23 : decode b_Chart_endsOf 23 = .ok (.aload_n 0, 1) := by decide +kernel
theorem d_Chart_endsOf_24 : decode b_Chart_endsOf 24 = .ok (.getfield 45, 3) := by decide +kernel
theorem d_Chart_endsOf_27 : decode b_Chart_endsOf 27 = .ok (.iload_n 2, 1) := by decide +kernel
theorem d_Chart_endsOf_28 : decode b_Chart_endsOf 28 = .ok (.invokevirtual 84, 3) := by decide +kernel
theorem d_Chart_endsOf_31 : decode b_Chart_endsOf 31 = .ok (.iload_n 1, 1) := by decide +kernel
theorem d_Chart_endsOf_32 : decode b_Chart_endsOf 32 = .ok (.if_icmp .ne 12, 3) := by decide +kernel
theorem d_Chart_endsOf_35 : decode b_Chart_endsOf 35 = .ok (.iload_n 2, 1) := by decide +kernel
theorem d_Chart_endsOf_36 : decode b_Chart_endsOf 36 = .ok (.iconst 1, 1) := by decide +kernel
theorem d_Chart_endsOf_37 : decode b_Chart_endsOf 37 = .ok (.iadd, 1) := by decide +kernel
theorem d_Chart_endsOf_38 : decode b_Chart_endsOf 38 = .ok (.invokestatic 89, 3) := by decide +kernel
theorem d_Chart_endsOf_41 : decode b_Chart_endsOf 41 = .ok (.goto 4, 3) := by decide +kernel
theorem d_Chart_endsOf_44 : decode b_Chart_endsOf 44 = .ok (.lconst 0, 1) := by decide +kernel
theorem d_Chart_endsOf_45 : decode b_Chart_endsOf 45 = .ok (.lreturn, 1) := by decide +kernel
abbrev b_Chart_severalEndsOf : ByteArray := prog_2_method_13_code
def y_Chart_severalEndsOf : MethodName := ⟨"SyntaxTrees$Chart", "severalEndsOf", "(I)J"⟩
def w_Chart_severalEndsOf : List Cond := .code y_Chart_severalEndsOf b_Chart_severalEndsOf 3 (some .long) :: TBL
theorem hd_Chart_severalEndsOf : y_Chart_severalEndsOf.cls = "SyntaxTrees$Chart" ∧ y_Chart_severalEndsOf.cls ≠ "java/lang/invoke/MethodHandle" ∧ y_Chart_severalEndsOf.cls ≠ "java/lang/invoke/VarHandle" ∧ (parseMethodDescriptor y_Chart_severalEndsOf.desc).map (fun d => d.parameters.length) = some 1 := by decide +kernel
theorem d_Chart_severalEndsOf_0 : decode b_Chart_severalEndsOf 0 = .ok (.aload_n 0, 1) := by decide +kernel
theorem d_Chart_severalEndsOf_1 : decode b_Chart_severalEndsOf 1 = .ok (.getfield 37, 3) := by decide +kernel
theorem d_Chart_severalEndsOf_4 : decode b_Chart_severalEndsOf 4 = .ok (.iload_n 1, 1) := by decide +kernel
theorem d_Chart_severalEndsOf_5 : decode b_Chart_severalEndsOf 5 = .ok (.invokevirtual 81, 3) := by decide +kernel
theorem d_Chart_severalEndsOf_8 : decode b_Chart_severalEndsOf 8 = .ok (.istore_n 2, 1) := by decide +kernel
theorem d_Chart_severalEndsOf_9 : decode b_Chart_severalEndsOf 9 = .ok (.iload_n 2, 1) := by decide +kernel
theorem d_Chart_severalEndsOf_10 : decode b_Chart_severalEndsOf 10 = .ok (.invokestatic 93, 3) := by decide +kernel
theorem d_Chart_severalEndsOf_13 : decode b_Chart_severalEndsOf 13 = .ok (.ifCond .eq 12, 3) := by decide +kernel
theorem d_Chart_severalEndsOf_16 : decode b_Chart_severalEndsOf 16 = .ok (.aload_n 0, 1) := by decide +kernel
theorem d_Chart_severalEndsOf_17 : decode b_Chart_severalEndsOf 17 = .ok (.getfield 21, 3) := by decide +kernel
theorem d_Chart_severalEndsOf_20 : decode b_Chart_severalEndsOf 20 = .ok (.iload_n 2, 1) := by decide +kernel
theorem d_Chart_severalEndsOf_21 : decode b_Chart_severalEndsOf 21 = .ok (.laload, 1) := by decide +kernel
theorem d_Chart_severalEndsOf_22 : decode b_Chart_severalEndsOf 22 = .ok (.goto 4, 3) := by decide +kernel
theorem d_Chart_severalEndsOf_25 : decode b_Chart_severalEndsOf 25 = .ok (.lconst 0, 1) := by decide +kernel
theorem d_Chart_severalEndsOf_26 : decode b_Chart_severalEndsOf 26 = .ok (.lreturn, 1) := by decide +kernel
abbrev b_Chart_addTrees : ByteArray := prog_2_method_14_code
def y_Chart_addTrees : MethodName := ⟨"SyntaxTrees$Chart", "addTrees", "(II)V"⟩
def w_Chart_addTrees : List Cond := .code y_Chart_addTrees b_Chart_addTrees 6 none :: TBL
theorem hd_Chart_addTrees : y_Chart_addTrees.cls = "SyntaxTrees$Chart" ∧ y_Chart_addTrees.cls ≠ "java/lang/invoke/MethodHandle" ∧ y_Chart_addTrees.cls ≠ "java/lang/invoke/VarHandle" ∧ (parseMethodDescriptor y_Chart_addTrees.desc).map (fun d => d.parameters.length) = some 2 := by decide +kernel
theorem d_Chart_addTrees_0 : decode b_Chart_addTrees 0 = .ok (.aload_n 0, 1) := by decide +kernel
theorem d_Chart_addTrees_1 : decode b_Chart_addTrees 1 = .ok (.getfield 37, 3) := by decide +kernel
theorem d_Chart_addTrees_4 : decode b_Chart_addTrees 4 = .ok (.iload_n 1, 1) := by decide +kernel
theorem d_Chart_addTrees_5 : decode b_Chart_addTrees 5 = .ok (.invokevirtual 49, 3) := by decide +kernel
theorem d_Chart_addTrees_8 : decode b_Chart_addTrees 8 = .ok (.istore_n 3, 1) := by decide +kernel
theorem d_Chart_addTrees_9 : decode b_Chart_addTrees 9 = .ok (.iload_n 3, 1) := by decide +kernel
theorem d_Chart_addTrees_10 : decode b_Chart_addTrees 10 = .ok (.invokestatic 93, 3) := by decide +kernel
theorem d_Chart_addTrees_13 : decode b_Chart_addTrees 13 = .ok (.ifCond .ne 4, 3) := by decide +kernel
theorem d_Chart_addTrees_16 : decode b_Chart_addTrees 16 = .ok (.return_, 1) := by decide +kernel
theorem d_Chart_addTrees_17 : decode b_Chart_addTrees 17 = .ok (.iconst 2, 1) := by decide +kernel
theorem d_Chart_addTrees_18 : decode b_Chart_addTrees 18 = .ok (.aload_n 0, 1) := by decide +kernel
theorem d_Chart_addTrees_19 : decode b_Chart_addTrees 19 = .ok (.getfield 30, 3) := by decide +kernel
theorem d_Chart_addTrees_22 : decode b_Chart_addTrees 22 = .ok (.iload_n 3, 1) := by decide +kernel
theorem d_Chart_addTrees_23 : decode b_Chart_addTrees 23 = .ok (.iaload, 1) := by decide +kernel
theorem d_Chart_addTrees_24 : decode b_Chart_addTrees 24 = .ok (.isub, 1) := by decide +kernel
theorem d_Chart_addTrees_25 : decode b_Chart_addTrees 25 = .ok (.aload_n 0, 1) := by decide +kernel
theorem d_Chart_addTrees_26 : decode b_Chart_addTrees 26 = .ok (.getfield 34, 3) := by decide +kernel
theorem d_Chart_addTrees_29 : decode b_Chart_addTrees 29 = .ok (.arraylength, 1) := by decide +kernel
theorem d_Chart_addTrees_30 : decode b_Chart_addTrees 30 = .ok (.aload_n 0, 1) := by decide +kernel
theorem d_Chart_addTrees_31 : decode b_Chart_addTrees 31 = .ok (.getfield 106, 3) := by decide +kernel
theorem d_Chart_addTrees_34 : decode b_Chart_addTrees 34 = .ok (.isub, 1) := by decide +kernel
theorem d_Chart_addTrees_35 : decode b_Chart_addTrees 35 = .ok (.invokestatic 153, 3) := by decide +kernel
theorem d_Chart_addTrees_38 : decode b_Chart_addTrees 38 = .ok (.istore 4, 2) := by decide +kernel
theorem d_Chart_addTrees_40 : decode b_Chart_addTrees 40 = .ok (.iconst 0, 1) := by decide +kernel
theorem d_Chart_addTrees_41 : decode b_Chart_addTrees 41 = .ok (.istore 5, 2) := by decide +kernel
theorem d_Chart_addTrees_43 : decode b_Chart_addTrees 43 = .ok (.iload 5, 2) := by decide +kernel
theorem d_Chart_addTrees_45 : decode b_Chart_addTrees 45 = .ok (.iload_n 2, 1) := by decide +kernel
theorem d_Chart_addTrees_46 : decode b_Chart_addTrees 46 = .ok (.if_icmp .ge 46, 3) := by decide +kernel
theorem d_Chart_addTrees_49 : decode b_Chart_addTrees 49 = .ok (.iload 5, 2) := by decide +kernel
theorem d_Chart_addTrees_51 : decode b_Chart_addTrees 51 = .ok (.iload 4, 2) := by decide +kernel
theorem d_Chart_addTrees_53 : decode b_Chart_addTrees 53 = .ok (.if_icmp .ge 39, 3) := by decide +kernel
theorem d_Chart_addTrees_56 : decode b_Chart_addTrees 56 = .ok (.aload_n 0, 1) := by decide +kernel
theorem d_Chart_addTrees_57 : decode b_Chart_addTrees 57 = .ok (.getfield 30, 3) := by decide +kernel
theorem d_Chart_addTrees_60 : decode b_Chart_addTrees 60 = .ok (.iload_n 3, 1) := by decide +kernel
theorem d_Chart_addTrees_61 : decode b_Chart_addTrees 61 = .ok (.dup2, 1) := by decide +kernel
theorem d_Chart_addTrees_62 : decode b_Chart_addTrees 62 = .ok (.iaload, 1) := by decide +kernel
theorem d_Chart_addTrees_63 : decode b_Chart_addTrees 63 = .ok (.iconst 1, 1) := by decide +kernel
theorem d_Chart_addTrees_64 : decode b_Chart_addTrees 64 = .ok (.iadd, 1) := by decide +kernel
theorem d_Chart_addTrees_65 : decode b_Chart_addTrees 65 = .ok (.iastore, 1) := by decide +kernel
theorem d_Chart_addTrees_66 : decode b_Chart_addTrees 66 = .ok (.aload_n 0, 1) := by decide +kernel
theorem d_Chart_addTrees_67 : decode b_Chart_addTrees 67 = .ok (.getfield 34, 3) := by decide +kernel
theorem d_Chart_addTrees_70 : decode b_Chart_addTrees 70 = .ok (.aload_n 0, 1) := by decide +kernel
theorem d_Chart_addTrees_71 : decode b_Chart_addTrees 71 = .ok (.getfield 106, 3) := by decide +kernel
theorem d_Chart_addTrees_74 : decode b_Chart_addTrees 74 = .ok (.iload_n 3, 1) := by decide +kernel
theorem d_Chart_addTrees_75 : decode b_Chart_addTrees 75 = .ok (.iastore, 1) := by decide +kernel
theorem d_Chart_addTrees_76 : decode b_Chart_addTrees 76 = .ok (.aload_n 0, 1) := by decide +kernel
theorem d_Chart_addTrees_77 : decode b_Chart_addTrees 77 = .ok (.dup, 1) := by decide +kernel
theorem d_Chart_addTrees_78 : decode b_Chart_addTrees 78 = .ok (.getfield 106, 3) := by decide +kernel
theorem d_Chart_addTrees_81 : decode b_Chart_addTrees 81 = .ok (.iconst 1, 1) := by decide +kernel
theorem d_Chart_addTrees_82 : decode b_Chart_addTrees 82 = .ok (.iadd, 1) := by decide +kernel
theorem d_Chart_addTrees_83 : decode b_Chart_addTrees 83 = .ok (.putfield 106, 3) := by decide +kernel
theorem d_Chart_addTrees_86 : decode b_Chart_addTrees 86 = .ok (.iinc 5 1, 3) := by decide +kernel
theorem d_Chart_addTrees_89 : decode b_Chart_addTrees 89 = .ok (.goto (-46), 3) := by decide +kernel
theorem d_Chart_addTrees_92 : decode b_Chart_addTrees 92 = .ok (.return_, 1) := by decide +kernel
abbrev b_Chart_wrapTrees : ByteArray := prog_2_method_15_code
def y_Chart_wrapTrees : MethodName := ⟨"SyntaxTrees$Chart", "wrapTrees", "()V"⟩
def w_Chart_wrapTrees : List Cond := .code y_Chart_wrapTrees b_Chart_wrapTrees 4 none :: TBL
theorem hd_Chart_wrapTrees : y_Chart_wrapTrees.cls = "SyntaxTrees$Chart" ∧ y_Chart_wrapTrees.cls ≠ "java/lang/invoke/MethodHandle" ∧ y_Chart_wrapTrees.cls ≠ "java/lang/invoke/VarHandle" ∧ (parseMethodDescriptor y_Chart_wrapTrees.desc).map (fun d => d.parameters.length) = some 0 := by decide +kernel
theorem d_Chart_wrapTrees_0 : decode b_Chart_wrapTrees 0 = .ok (.iconst 0, 1) := by decide +kernel
theorem d_Chart_wrapTrees_1 : decode b_Chart_wrapTrees 1 = .ok (.istore_n 1, 1) := by decide +kernel
theorem d_Chart_wrapTrees_2 : decode b_Chart_wrapTrees 2 = .ok (.iload_n 1, 1) := by decide +kernel
theorem d_Chart_wrapTrees_3 : decode b_Chart_wrapTrees 3 = .ok (.aload_n 0, 1) := by decide +kernel
theorem d_Chart_wrapTrees_4 : decode b_Chart_wrapTrees 4 = .ok (.getfield 106, 3) := by decide +kernel
theorem d_Chart_wrapTrees_7 : decode b_Chart_wrapTrees 7 = .ok (.if_icmp .ge 81, 3) := by decide +kernel
theorem d_Chart_wrapTrees_10 : decode b_Chart_wrapTrees 10 = .ok (.iload_n 1, 1) := by decide +kernel
theorem d_Chart_wrapTrees_11 : decode b_Chart_wrapTrees 11 = .ok (.aload_n 0, 1) := by decide +kernel
theorem d_Chart_wrapTrees_12 : decode b_Chart_wrapTrees 12 = .ok (.getfield 34, 3) := by decide +kernel
theorem d_Chart_wrapTrees_15 : decode b_Chart_wrapTrees 15 = .ok (.arraylength, 1) := by decide +kernel
theorem d_Chart_wrapTrees_16 : decode b_Chart_wrapTrees 16 = .ok (.if_icmp .ge 72, 3) := by decide +kernel
theorem d_Chart_wrapTrees_19 : decode b_Chart_wrapTrees 19 = .ok (.aload_n 0, 1) := by decide +kernel
theorem d_Chart_wrapTrees_20 : decode b_Chart_wrapTrees 20 = .ok (.getfield 41, 3) := by decide +kernel
theorem d_Chart_wrapTrees_23 : decode b_Chart_wrapTrees 23 = .ok (.aload_n 0, 1) := by decide +kernel
theorem d_Chart_wrapTrees_24 : decode b_Chart_wrapTrees 24 = .ok (.getfield 34, 3) := by decide +kernel
theorem d_Chart_wrapTrees_27 : decode b_Chart_wrapTrees 27 = .ok (.iload_n 1, 1) := by decide +kernel
theorem d_Chart_wrapTrees_28 : decode b_Chart_wrapTrees 28 = .ok (.iaload, 1) := by decide +kernel
theorem d_Chart_wrapTrees_29 : decode b_Chart_wrapTrees 29 = .ok (.invokevirtual 158, 3) := by decide +kernel
theorem d_Chart_wrapTrees_32 : decode b_Chart_wrapTrees 32 = .ok (.istore_n 2, 1) := by decide +kernel
theorem d_Chart_wrapTrees_33 : decode b_Chart_wrapTrees 33 = .ok (.sipush 1500, 3) := by decide +kernel
theorem d_Chart_wrapTrees_36 : decode b_Chart_wrapTrees 36 = .ok (.istore_n 3, 1) := by decide +kernel
theorem d_Chart_wrapTrees_37 : decode b_Chart_wrapTrees 37 = .ok (.iload_n 3, 1) := by decide +kernel
theorem d_Chart_wrapTrees_38 : decode b_Chart_wrapTrees 38 = .ok (.ifCond .le 44, 3) := by decide +kernel
theorem d_Chart_wrapTrees_41 : decode b_Chart_wrapTrees 41 = .ok (.iload_n 2, 1) := by decide +kernel
theorem d_Chart_wrapTrees_42 : decode b_Chart_wrapTrees 42 = .ok (.iconst (-1), 1) := by decide +kernel
theorem d_Chart_wrapTrees_43 : decode b_Chart_wrapTrees 43 = .ok (.if_icmp .eq 39, 3) := by decide +kernel
theorem d_Chart_wrapTrees_46 : decode b_Chart_wrapTrees 46 = .ok (.iload_n 2, 1) := by decide +kernel
theorem d_Chart_wrapTrees_47 : decode b_Chart_wrapTrees 47 = .ok (.aload_n 0, 1) := by decide +kernel
theorem d_Chart_wrapTrees_48 : decode b_Chart_wrapTrees 48 = .ok (.getfield 59, 3) := by decide +kernel
theorem d_Chart_wrapTrees_51 : decode b_Chart_wrapTrees 51 = .ok (.if_icmp .ge 16, 3) := by decide +kernel
theorem d_Chart_wrapTrees_54 : decode b_Chart_wrapTrees 54 = .ok (.aload_n 0, 1) := by decide +kernel
theorem d_Chart_wrapTrees_55 : decode b_Chart_wrapTrees 55 = .ok (.aload_n 0, 1) := by decide +kernel
theorem d_Chart_wrapTrees_56 : decode b_Chart_wrapTrees 56 = .ok (.getfield 41, 3) := by decide +kernel
theorem d_Chart_wrapTrees_59 : decode b_Chart_wrapTrees 59 = .ok (.iload_n 2, 1) := by decide +kernel
theorem d_Chart_wrapTrees_60 : decode b_Chart_wrapTrees 60 = .ok (.invokevirtual 116, 3) := by decide +kernel
theorem d_Chart_wrapTrees_63 : decode b_Chart_wrapTrees 63 = .ok (.iconst 1, 1) := by decide +kernel
theorem d_Chart_wrapTrees_64 : decode b_Chart_wrapTrees 64 = .ok (.invokevirtual 123, 3) := by decide +kernel
theorem d_Chart_wrapTrees_67 : decode b_Chart_wrapTrees 67 = .ok (.aload_n 0, 1) := by decide +kernel
theorem d_Chart_wrapTrees_68 : decode b_Chart_wrapTrees 68 = .ok (.getfield 41, 3) := by decide +kernel
theorem d_Chart_wrapTrees_71 : decode b_Chart_wrapTrees 71 = .ok (.iload_n 2, 1) := by decide +kernel
theorem d_Chart_wrapTrees_72 : decode b_Chart_wrapTrees 72 = .ok (.invokevirtual 161, 3) := by decide +kernel
theorem d_Chart_wrapTrees_75 : decode b_Chart_wrapTrees 75 = .ok (.istore_n 2, 1) := by decide +kernel
theorem d_Chart_wrapTrees_76 : decode b_Chart_wrapTrees 76 = .ok (.iinc 3 (-1), 3) := by decide +kernel
theorem d_Chart_wrapTrees_79 : decode b_Chart_wrapTrees 79 = .ok (.goto (-42), 3) := by decide +kernel
theorem d_Chart_wrapTrees_82 : decode b_Chart_wrapTrees 82 = .ok (.iinc 1 1, 3) := by decide +kernel
theorem d_Chart_wrapTrees_85 : decode b_Chart_wrapTrees 85 = .ok (.goto (-83), 3) := by decide +kernel
theorem d_Chart_wrapTrees_88 : decode b_Chart_wrapTrees 88 = .ok (.return_, 1) := by decide +kernel
abbrev b_Chart_keepFound : ByteArray := prog_2_method_16_code
def y_Chart_keepFound : MethodName := ⟨"SyntaxTrees$Chart", "keepFound", "(II)V"⟩
def w_Chart_keepFound : List Cond := .code y_Chart_keepFound b_Chart_keepFound 5 none :: TBL
theorem hd_Chart_keepFound : y_Chart_keepFound.cls = "SyntaxTrees$Chart" ∧ y_Chart_keepFound.cls ≠ "java/lang/invoke/MethodHandle" ∧ y_Chart_keepFound.cls ≠ "java/lang/invoke/VarHandle" ∧ (parseMethodDescriptor y_Chart_keepFound.desc).map (fun d => d.parameters.length) = some 2 := by decide +kernel
theorem d_Chart_keepFound_0 : decode b_Chart_keepFound 0 = .ok (.iconst 0, 1) := by decide +kernel
theorem d_Chart_keepFound_1 : decode b_Chart_keepFound 1 = .ok (.istore_n 3, 1) := by decide +kernel
theorem d_Chart_keepFound_2 : decode b_Chart_keepFound 2 = .ok (.iload_n 3, 1) := by decide +kernel
theorem d_Chart_keepFound_3 : decode b_Chart_keepFound 3 = .ok (.aload_n 0, 1) := by decide +kernel
theorem d_Chart_keepFound_4 : decode b_Chart_keepFound 4 = .ok (.getfield 37, 3) := by decide +kernel
theorem d_Chart_keepFound_7 : decode b_Chart_keepFound 7 = .ok (.invokevirtual 97, 3) := by decide +kernel
theorem d_Chart_keepFound_10 : decode b_Chart_keepFound 10 = .ok (.if_icmp .ge 90, 3) := by decide +kernel
theorem d_Chart_keepFound_13 : decode b_Chart_keepFound 13 = .ok (.iload_n 3, 1) := by decide +kernel
theorem d_Chart_keepFound_14 : decode b_Chart_keepFound 14 = .ok (.bipush 60, 2) := by decide +kernel
theorem d_Chart_keepFound_16 : decode b_Chart_keepFound 16 = .ok (.imul, 1) := by decide +kernel
theorem d_Chart_keepFound_17 : decode b_Chart_keepFound 17 = .ok (.iload_n 2, 1) := by decide +kernel
theorem d_Chart_keepFound_18 : decode b_Chart_keepFound 18 = .ok (.iadd, 1) := by decide +kernel
theorem d_Chart_keepFound_19 : decode b_Chart_keepFound 19 = .ok (.istore 4, 2) := by decide +kernel
theorem d_Chart_keepFound_21 : decode b_Chart_keepFound 21 = .ok (.aload_n 0, 1) := by decide +kernel
theorem d_Chart_keepFound_22 : decode b_Chart_keepFound 22 = .ok (.getfield 30, 3) := by decide +kernel
theorem d_Chart_keepFound_25 : decode b_Chart_keepFound 25 = .ok (.iload_n 3, 1) := by decide +kernel
theorem d_Chart_keepFound_26 : decode b_Chart_keepFound 26 = .ok (.iaload, 1) := by decide +kernel
theorem d_Chart_keepFound_27 : decode b_Chart_keepFound 27 = .ok (.ifCond .le 30, 3) := by decide +kernel
theorem d_Chart_keepFound_30 : decode b_Chart_keepFound 30 = .ok (.aload_n 0, 1) := by decide +kernel
theorem d_Chart_keepFound_31 : decode b_Chart_keepFound 31 = .ok (.getfield 9, 3) := by decide +kernel
theorem d_Chart_keepFound_34 : decode b_Chart_keepFound 34 = .ok (.iload 4, 2) := by decide +kernel
theorem d_Chart_keepFound_36 : decode b_Chart_keepFound 36 = .ok (.dup2, 1) := by decide +kernel
theorem d_Chart_keepFound_37 : decode b_Chart_keepFound 37 = .ok (.laload, 1) := by decide +kernel
theorem d_Chart_keepFound_38 : decode b_Chart_keepFound 38 = .ok (.iload_n 1, 1) := by decide +kernel
theorem d_Chart_keepFound_39 : decode b_Chart_keepFound 39 = .ok (.invokestatic 89, 3) := by decide +kernel
theorem d_Chart_keepFound_42 : decode b_Chart_keepFound 42 = .ok (.lor, 1) := by decide +kernel
theorem d_Chart_keepFound_43 : decode b_Chart_keepFound 43 = .ok (.lastore, 1) := by decide +kernel
theorem d_Chart_keepFound_44 : decode b_Chart_keepFound 44 = .ok (.aload_n 0, 1) := by decide +kernel
theorem d_Chart_keepFound_45 : decode b_Chart_keepFound 45 = .ok (.getfield 18, 3) := by decide +kernel
theorem d_Chart_keepFound_48 : decode b_Chart_keepFound 48 = .ok (.iload_n 3, 1) := by decide +kernel
theorem d_Chart_keepFound_49 : decode b_Chart_keepFound 49 = .ok (.dup2, 1) := by decide +kernel
theorem d_Chart_keepFound_50 : decode b_Chart_keepFound 50 = .ok (.laload, 1) := by decide +kernel
theorem d_Chart_keepFound_51 : decode b_Chart_keepFound 51 = .ok (.iload_n 2, 1) := by decide +kernel
theorem d_Chart_keepFound_52 : decode b_Chart_keepFound 52 = .ok (.invokestatic 89, 3) := by decide +kernel
theorem d_Chart_keepFound_55 : decode b_Chart_keepFound 55 = .ok (.lor, 1) := by decide +kernel
theorem d_Chart_keepFound_56 : decode b_Chart_keepFound 56 = .ok (.lastore, 1) := by decide +kernel
theorem d_Chart_keepFound_57 : decode b_Chart_keepFound 57 = .ok (.aload_n 0, 1) := by decide +kernel
theorem d_Chart_keepFound_58 : decode b_Chart_keepFound 58 = .ok (.getfield 30, 3) := by decide +kernel
theorem d_Chart_keepFound_61 : decode b_Chart_keepFound 61 = .ok (.iload_n 3, 1) := by decide +kernel
theorem d_Chart_keepFound_62 : decode b_Chart_keepFound 62 = .ok (.iaload, 1) := by decide +kernel
theorem d_Chart_keepFound_63 : decode b_Chart_keepFound 63 = .ok (.iconst 2, 1) := by decide +kernel
theorem d_Chart_keepFound_64 : decode b_Chart_keepFound 64 = .ok (.if_icmp .ne 30, 3) := by decide +kernel
theorem d_Chart_keepFound_67 : decode b_Chart_keepFound 67 = .ok (.aload_n 0, 1) := by decide +kernel
theorem d_Chart_keepFound_68 : decode b_Chart_keepFound 68 = .ok (.getfield 15, 3) := by decide +kernel
theorem d_Chart_keepFound_71 : decode b_Chart_keepFound 71 = .ok (.iload 4, 2) := by decide +kernel
theorem d_Chart_keepFound_73 : decode b_Chart_keepFound 73 = .ok (.dup2, 1) := by decide +kernel
theorem d_Chart_keepFound_74 : decode b_Chart_keepFound 74 = .ok (.laload, 1) := by decide +kernel
theorem d_Chart_keepFound_75 : decode b_Chart_keepFound 75 = .ok (.iload_n 1, 1) := by decide +kernel
theorem d_Chart_keepFound_76 : decode b_Chart_keepFound 76 = .ok (.invokestatic 89, 3) := by decide +kernel
theorem d_Chart_keepFound_79 : decode b_Chart_keepFound 79 = .ok (.lor, 1) := by decide +kernel
theorem d_Chart_keepFound_80 : decode b_Chart_keepFound 80 = .ok (.lastore, 1) := by decide +kernel
theorem d_Chart_keepFound_81 : decode b_Chart_keepFound 81 = .ok (.aload_n 0, 1) := by decide +kernel
theorem d_Chart_keepFound_82 : decode b_Chart_keepFound 82 = .ok (.getfield 21, 3) := by decide +kernel
theorem d_Chart_keepFound_85 : decode b_Chart_keepFound 85 = .ok (.iload_n 3, 1) := by decide +kernel
theorem d_Chart_keepFound_86 : decode b_Chart_keepFound 86 = .ok (.dup2, 1) := by decide +kernel
theorem d_Chart_keepFound_87 : decode b_Chart_keepFound 87 = .ok (.laload, 1) := by decide +kernel
theorem d_Chart_keepFound_88 : decode b_Chart_keepFound 88 = .ok (.iload_n 2, 1) := by decide +kernel
theorem d_Chart_keepFound_89 : decode b_Chart_keepFound 89 = .ok (.invokestatic 89, 3) := by decide +kernel
theorem d_Chart_keepFound_92 : decode b_Chart_keepFound 92 = .ok (.lor, 1) := by decide +kernel
theorem d_Chart_keepFound_93 : decode b_Chart_keepFound 93 = .ok (.lastore, 1) := by decide +kernel
theorem d_Chart_keepFound_94 : decode b_Chart_keepFound 94 = .ok (.iinc 3 1, 3) := by decide +kernel
theorem d_Chart_keepFound_97 : decode b_Chart_keepFound 97 = .ok (.goto (-95), 3) := by decide +kernel
theorem d_Chart_keepFound_100 : decode b_Chart_keepFound 100 = .ok (.return_, 1) := by decide +kernel
abbrev b_Chart_startsOf : ByteArray := prog_2_method_3_code
def y_Chart_startsOf : MethodName := ⟨"SyntaxTrees$Chart", "startsOf", "(II)J"⟩
def w_Chart_startsOf : List Cond := .code y_Chart_startsOf b_Chart_startsOf 5 (some .long) :: TBL
theorem hd_Chart_startsOf : y_Chart_startsOf.cls = "SyntaxTrees$Chart" ∧ y_Chart_startsOf.cls ≠ "java/lang/invoke/MethodHandle" ∧ y_Chart_startsOf.cls ≠ "java/lang/invoke/VarHandle" ∧ (parseMethodDescriptor y_Chart_startsOf.desc).map (fun d => d.parameters.length) = some 2 := by decide +kernel
theorem d_Chart_startsOf_0 : decode b_Chart_startsOf 0 = .ok (.aload_n 0, 1) := by decide +kernel
theorem d_Chart_startsOf_1 : decode b_Chart_startsOf 1 = .ok (.getfield 37, 3) := by decide +kernel
theorem d_Chart_startsOf_4 : decode b_Chart_startsOf 4 = .ok (.iload_n 1, 1) := by decide +kernel
theorem d_Chart_startsOf_5 : decode b_Chart_startsOf 5 = .ok (.invokevirtual 81, 3) := by decide +kernel
theorem d_Chart_startsOf_8 : decode b_Chart_startsOf 8 = .ok (.istore_n 3, 1) := by decide +kernel
theorem d_Chart_startsOf_9 : decode b_Chart_startsOf 9 = .ok (.iload_n 3, 1) := by decide +kernel
theorem d_Chart_startsOf_10 : decode b_Chart_startsOf 10 = .ok (.iconst (-1), 1) := by decide +kernel
theorem d_Chart_startsOf_11 : decode b_Chart_startsOf 11 = .ok (.if_icmp .ne 32, 3) := by decide +kernel
theorem d_Chart_startsOf_14 : decode b_Chart_startsOf 14 = .ok (.iload_n 2, 1) := by decide +kernel
theorem d_Chart_startsOf_15 : decode b_Chart_startsOf 15 = .ok (.ifCond .le 26, 3) := by decide +kernel
theorem d_Chart_startsOf_18 : decode b_Chart_startsOf 18 = .ok (.aload_n 0, 1) := by decide +kernel
theorem d_Chart_startsOf_19 : decode b_Chart_startsOf 19 = .ok (.getfield 45, 3) := by decide +kernel
theorem d_Chart_startsOf_22 : decode b_Chart_startsOf 22 = .ok (.iload_n 2, 1) := by decide +kernel
theorem d_Chart_startsOf_23 : decode b_Chart_startsOf 23 = .ok (.iconst 1, 1) := by decide +kernel
theorem d_Chart_startsOf_24 : decode b_Chart_startsOf 24 = .ok (.isub, 1) := by decide +kernel
theorem d_Chart_startsOf_25 : decode b_Chart_startsOf 25 = .ok (.invokevirtual 84, 3) := by decide +kernel
theorem d_Chart_startsOf_28 : decode b_Chart_startsOf 28 = .ok (.iload_n 1, 1) := by decide +kernel
theorem d_Chart_startsOf_29 : decode b_Chart_startsOf 29 = .ok (.if_icmp .ne 12, 3) := by decide +kernel
theorem d_Chart_startsOf_32 : decode b_Chart_startsOf 32 = .ok (.iload_n 2, 1) := by decide +kernel
theorem d_Chart_startsOf_33 : decode b_Chart_startsOf 33 = .ok (.iconst 1, 1) := by decide +kernel
theorem d_Chart_startsOf_34 : decode b_Chart_startsOf 34 = .ok (.isub, 1) := by decide +kernel
theorem d_Chart_startsOf_35 : decode b_Chart_startsOf 35 = .ok (.invokestatic 89, 3) := by decide +kernel
theorem d_Chart_startsOf_38 : decode b_Chart_startsOf 38 = .ok (.goto 4, 3) := by decide +kernel
theorem d_Chart_startsOf_41 : decode b_Chart_startsOf 41 = .ok (.lconst 0, 1) := by decide +kernel
theorem d_Chart_startsOf_42 : decode b_Chart_startsOf 42 = .ok (.lreturn, 1) := by decide +kernel
theorem d_Chart_startsOf_43 : decode b_Chart_startsOf 43 = .ok (.iload_n 3, 1) := by decide +kernel
theorem d_Chart_startsOf_44 : decode b_Chart_startsOf 44 = .ok (.iload_n 2, 1) := by decide +kernel
theorem d_Chart_startsOf_45 : decode b_Chart_startsOf 45 = .ok (.invokestatic 55, 3) := by decide +kernel
theorem d_Chart_startsOf_48 : decode b_Chart_startsOf 48 = .ok (.istore 4, 2) := by decide +kernel
theorem d_Chart_startsOf_50 : decode b_Chart_startsOf 50 = .ok (.iload 4, 2) := by decide +kernel
theorem d_Chart_startsOf_52 : decode b_Chart_startsOf 52 = .ok (.iconst (-1), 1) := by decide +kernel
theorem d_Chart_startsOf_53 : decode b_Chart_startsOf 53 = .ok (.if_icmp .ne 7, 3) := by decide +kernel
theorem d_Chart_startsOf_56 : decode b_Chart_startsOf 56 = .ok (.lconst 0, 1) := by decide +kernel
theorem d_Chart_startsOf_57 : decode b_Chart_startsOf 57 = .ok (.goto 10, 3) := by decide +kernel
theorem d_Chart_startsOf_60 : decode b_Chart_startsOf 60 = .ok (.aload_n 0, 1) := by decide +kernel
theorem d_Chart_startsOf_61 : decode b_Chart_startsOf 61 = .ok (.getfield 9, 3) := by decide +kernel
theorem d_Chart_startsOf_64 : decode b_Chart_startsOf 64 = .ok (.iload 4, 2) := by decide +kernel
theorem d_Chart_startsOf_66 : decode b_Chart_startsOf 66 = .ok (.laload, 1) := by decide +kernel
theorem d_Chart_startsOf_67 : decode b_Chart_startsOf 67 = .ok (.lreturn, 1) := by decide +kernel
abbrev b_Chart_severalStartsOf : ByteArray := prog_2_method_4_code
def y_Chart_severalStartsOf : MethodName := ⟨"SyntaxTrees$Chart", "severalStartsOf", "(II)J"⟩
def w_Chart_severalStartsOf : List Cond := .code y_Chart_severalStartsOf b_Chart_severalStartsOf 4 (some .long) :: TBL
theorem hd_Chart_severalStartsOf : y_Chart_severalStartsOf.cls = "SyntaxTrees$Chart" ∧ y_Chart_severalStartsOf.cls ≠ "java/lang/invoke/MethodHandle" ∧ y_Chart_severalStartsOf.cls ≠ "java/lang/invoke/VarHandle" ∧ (parseMethodDescriptor y_Chart_severalStartsOf.desc).map (fun d => d.parameters.length) = some 2 := by decide +kernel
theorem d_Chart_severalStartsOf_0 : decode b_Chart_severalStartsOf 0 = .ok (.aload_n 0, 1) := by decide +kernel
theorem d_Chart_severalStartsOf_1 : decode b_Chart_severalStartsOf 1 = .ok (.getfield 37, 3) := by decide +kernel
theorem d_Chart_severalStartsOf_4 : decode b_Chart_severalStartsOf 4 = .ok (.iload_n 1, 1) := by decide +kernel
theorem d_Chart_severalStartsOf_5 : decode b_Chart_severalStartsOf 5 = .ok (.invokevirtual 81, 3) := by decide +kernel
theorem d_Chart_severalStartsOf_8 : decode b_Chart_severalStartsOf 8 = .ok (.iload_n 2, 1) := by decide +kernel
theorem d_Chart_severalStartsOf_9 : decode b_Chart_severalStartsOf 9 = .ok (.invokestatic 55, 3) := by decide +kernel
theorem d_Chart_severalStartsOf_12 : decode b_Chart_severalStartsOf 12 = .ok (.istore_n 3, 1) := by decide +kernel
theorem d_Chart_severalStartsOf_13 : decode b_Chart_severalStartsOf 13 = .ok (.iload_n 3, 1) := by decide +kernel
theorem d_Chart_severalStartsOf_14 : decode b_Chart_severalStartsOf 14 = .ok (.iconst (-1), 1) := by decide +kernel
theorem d_Chart_severalStartsOf_15 : decode b_Chart_severalStartsOf 15 = .ok (.if_icmp .ne 7, 3) := by decide +kernel
theorem d_Chart_severalStartsOf_18 : decode b_Chart_severalStartsOf 18 = .ok (.lconst 0, 1) := by decide +kernel
theorem d_Chart_severalStartsOf_19 : decode b_Chart_severalStartsOf 19 = .ok (.goto 9, 3) := by decide +kernel
theorem d_Chart_severalStartsOf_22 : decode b_Chart_severalStartsOf 22 = .ok (.aload_n 0, 1) := by decide +kernel
theorem d_Chart_severalStartsOf_23 : decode b_Chart_severalStartsOf 23 = .ok (.getfield 15, 3) := by decide +kernel
theorem d_Chart_severalStartsOf_26 : decode b_Chart_severalStartsOf 26 = .ok (.iload_n 3, 1) := by decide +kernel
theorem d_Chart_severalStartsOf_27 : decode b_Chart_severalStartsOf 27 = .ok (.laload, 1) := by decide +kernel
theorem d_Chart_severalStartsOf_28 : decode b_Chart_severalStartsOf 28 = .ok (.lreturn, 1) := by decide +kernel
abbrev b_Chart_findSingles : ByteArray := prog_2_method_9_code
def y_Chart_findSingles : MethodName := ⟨"SyntaxTrees$Chart", "findSingles", "(I)V"⟩
def w_Chart_findSingles : List Cond := .code y_Chart_findSingles b_Chart_findSingles 3 none :: TBL
theorem hd_Chart_findSingles : y_Chart_findSingles.cls = "SyntaxTrees$Chart" ∧ y_Chart_findSingles.cls ≠ "java/lang/invoke/MethodHandle" ∧ y_Chart_findSingles.cls ≠ "java/lang/invoke/VarHandle" ∧ (parseMethodDescriptor y_Chart_findSingles.desc).map (fun d => d.parameters.length) = some 1 := by decide +kernel
theorem d_Chart_findSingles_0 : decode b_Chart_findSingles 0 = .ok (.aload_n 0, 1) := by decide +kernel
theorem d_Chart_findSingles_1 : decode b_Chart_findSingles 1 = .ok (.getfield 37, 3) := by decide +kernel
theorem d_Chart_findSingles_4 : decode b_Chart_findSingles 4 = .ok (.iload_n 1, 1) := by decide +kernel
theorem d_Chart_findSingles_5 : decode b_Chart_findSingles 5 = .ok (.invokevirtual 129, 3) := by decide +kernel
theorem d_Chart_findSingles_8 : decode b_Chart_findSingles 8 = .ok (.ifCond .eq 17, 3) := by decide +kernel
theorem d_Chart_findSingles_11 : decode b_Chart_findSingles 11 = .ok (.aload_n 0, 1) := by decide +kernel
theorem d_Chart_findSingles_12 : decode b_Chart_findSingles 12 = .ok (.aload_n 0, 1) := by decide +kernel
theorem d_Chart_findSingles_13 : decode b_Chart_findSingles 13 = .ok (.getfield 37, 3) := by decide +kernel
theorem d_Chart_findSingles_16 : decode b_Chart_findSingles 16 = .ok (.iload_n 1, 1) := by decide +kernel
theorem d_Chart_findSingles_17 : decode b_Chart_findSingles 17 = .ok (.invokevirtual 132, 3) := by decide +kernel
theorem d_Chart_findSingles_20 : decode b_Chart_findSingles 20 = .ok (.iconst 1, 1) := by decide +kernel
theorem d_Chart_findSingles_21 : decode b_Chart_findSingles 21 = .ok (.invokevirtual 123, 3) := by decide +kernel
theorem d_Chart_findSingles_24 : decode b_Chart_findSingles 24 = .ok (.return_, 1) := by decide +kernel
theorem d_Chart_findSingles_25 : decode b_Chart_findSingles 25 = .ok (.iconst 0, 1) := by decide +kernel
theorem d_Chart_findSingles_26 : decode b_Chart_findSingles 26 = .ok (.istore_n 2, 1) := by decide +kernel
theorem d_Chart_findSingles_27 : decode b_Chart_findSingles 27 = .ok (.iload_n 2, 1) := by decide +kernel
theorem d_Chart_findSingles_28 : decode b_Chart_findSingles 28 = .ok (.aload_n 0, 1) := by decide +kernel
theorem d_Chart_findSingles_29 : decode b_Chart_findSingles 29 = .ok (.getfield 59, 3) := by decide +kernel
theorem d_Chart_findSingles_32 : decode b_Chart_findSingles 32 = .ok (.if_icmp .ge 53, 3) := by decide +kernel
theorem d_Chart_findSingles_35 : decode b_Chart_findSingles 35 = .ok (.aload_n 0, 1) := by decide +kernel
theorem d_Chart_findSingles_36 : decode b_Chart_findSingles 36 = .ok (.getfield 41, 3) := by decide +kernel
theorem d_Chart_findSingles_39 : decode b_Chart_findSingles 39 = .ok (.iload_n 2, 1) := by decide +kernel
theorem d_Chart_findSingles_40 : decode b_Chart_findSingles 40 = .ok (.invokevirtual 113, 3) := by decide +kernel
theorem d_Chart_findSingles_43 : decode b_Chart_findSingles 43 = .ok (.iconst 1, 1) := by decide +kernel
theorem d_Chart_findSingles_44 : decode b_Chart_findSingles 44 = .ok (.if_icmp .ne 35, 3) := by decide +kernel
theorem d_Chart_findSingles_47 : decode b_Chart_findSingles 47 = .ok (.aload_n 0, 1) := by decide +kernel
theorem d_Chart_findSingles_48 : decode b_Chart_findSingles 48 = .ok (.getfield 41, 3) := by decide +kernel
theorem d_Chart_findSingles_51 : decode b_Chart_findSingles 51 = .ok (.aload_n 0, 1) := by decide +kernel
theorem d_Chart_findSingles_52 : decode b_Chart_findSingles 52 = .ok (.getfield 41, 3) := by decide +kernel
theorem d_Chart_findSingles_55 : decode b_Chart_findSingles 55 = .ok (.iload_n 2, 1) := by decide +kernel
theorem d_Chart_findSingles_56 : decode b_Chart_findSingles 56 = .ok (.invokevirtual 101, 3) := by decide +kernel
theorem d_Chart_findSingles_59 : decode b_Chart_findSingles 59 = .ok (.invokevirtual 135, 3) := by decide +kernel
theorem d_Chart_findSingles_62 : decode b_Chart_findSingles 62 = .ok (.iload_n 1, 1) := by decide +kernel
theorem d_Chart_findSingles_63 : decode b_Chart_findSingles 63 = .ok (.if_icmp .ne 16, 3) := by decide +kernel
theorem d_Chart_findSingles_66 : decode b_Chart_findSingles 66 = .ok (.aload_n 0, 1) := by decide +kernel
theorem d_Chart_findSingles_67 : decode b_Chart_findSingles 67 = .ok (.aload_n 0, 1) := by decide +kernel
theorem d_Chart_findSingles_68 : decode b_Chart_findSingles 68 = .ok (.getfield 41, 3) := by decide +kernel
theorem d_Chart_findSingles_71 : decode b_Chart_findSingles 71 = .ok (.iload_n 2, 1) := by decide +kernel
theorem d_Chart_findSingles_72 : decode b_Chart_findSingles 72 = .ok (.invokevirtual 116, 3) := by decide +kernel
theorem d_Chart_findSingles_75 : decode b_Chart_findSingles 75 = .ok (.iconst 1, 1) := by decide +kernel
theorem d_Chart_findSingles_76 : decode b_Chart_findSingles 76 = .ok (.invokevirtual 123, 3) := by decide +kernel
theorem d_Chart_findSingles_79 : decode b_Chart_findSingles 79 = .ok (.iinc 2 1, 3) := by decide +kernel
theorem d_Chart_findSingles_82 : decode b_Chart_findSingles 82 = .ok (.goto (-55), 3) := by decide +kernel
theorem d_Chart_findSingles_85 : decode b_Chart_findSingles 85 = .ok (.return_, 1) := by decide +kernel
abbrev b_Chart_waysBetween : ByteArray := prog_2_method_11_code
def y_Chart_waysBetween : MethodName := ⟨"SyntaxTrees$Chart", "waysBetween", "(JJII)I"⟩
def w_Chart_waysBetween : List Cond := .code y_Chart_waysBetween b_Chart_waysBetween 12 (some .int) :: TBL
theorem hd_Chart_waysBetween : y_Chart_waysBetween.cls = "SyntaxTrees$Chart" ∧ y_Chart_waysBetween.cls ≠ "java/lang/invoke/MethodHandle" ∧ y_Chart_waysBetween.cls ≠ "java/lang/invoke/VarHandle" ∧ (parseMethodDescriptor y_Chart_waysBetween.desc).map (fun d => d.parameters.length) = some 4 := by decide +kernel
theorem d_Chart_waysBetween_0 : decode b_Chart_waysBetween 0 = .ok (.lload_n 1, 1) := by decide +kernel
theorem d_Chart_waysBetween_1 : decode b_Chart_waysBetween 1 = .ok (.aload_n 0, 1) := by decide +kernel
theorem d_Chart_waysBetween_2 : decode b_Chart_waysBetween 2 = .ok (.iload 5, 2) := by decide +kernel
theorem d_Chart_waysBetween_4 : decode b_Chart_waysBetween 4 = .ok (.iload 6, 2) := by decide +kernel
theorem d_Chart_waysBetween_6 : decode b_Chart_waysBetween 6 = .ok (.invokevirtual 147, 3) := by decide +kernel
theorem d_Chart_waysBetween_9 : decode b_Chart_waysBetween 9 = .ok (.land, 1) := by decide +kernel
theorem d_Chart_waysBetween_10 : decode b_Chart_waysBetween 10 = .ok (.lstore 7, 2) := by decide +kernel
theorem d_Chart_waysBetween_12 : decode b_Chart_waysBetween 12 = .ok (.lload 7, 2) := by decide +kernel
theorem d_Chart_waysBetween_14 : decode b_Chart_waysBetween 14 = .ok (.lconst 0, 1) := by decide +kernel
theorem d_Chart_waysBetween_15 : decode b_Chart_waysBetween 15 = .ok (.lcmp, 1) := by decide +kernel
theorem d_Chart_waysBetween_16 : decode b_Chart_waysBetween 16 = .ok (.ifCond .ne 5, 3) := by decide +kernel
theorem d_Chart_waysBetween_19 : decode b_Chart_waysBetween 19 = .ok (.iconst 0, 1) := by decide +kernel
theorem d_Chart_waysBetween_20 : decode b_Chart_waysBetween 20 = .ok (.ireturn, 1) := by decide +kernel
theorem d_Chart_waysBetween_21 : decode b_Chart_waysBetween 21 = .ok (.lload 7, 2) := by decide +kernel
theorem d_Chart_waysBetween_23 : decode b_Chart_waysBetween 23 = .ok (.lload 7, 2) := by decide +kernel
theorem d_Chart_waysBetween_25 : decode b_Chart_waysBetween 25 = .ok (.lconst 1, 1) := by decide +kernel
theorem d_Chart_waysBetween_26 : decode b_Chart_waysBetween 26 = .ok (.lsub, 1) := by decide +kernel
theorem d_Chart_waysBetween_27 : decode b_Chart_waysBetween 27 = .ok (.land, 1) := by decide +kernel
theorem d_Chart_waysBetween_28 : decode b_Chart_waysBetween 28 = .ok (.lconst 0, 1) := by decide +kernel
theorem d_Chart_waysBetween_29 : decode b_Chart_waysBetween 29 = .ok (.lcmp, 1) := by decide +kernel
theorem d_Chart_waysBetween_30 : decode b_Chart_waysBetween 30 = .ok (.ifCond .ne 7, 3) := by decide +kernel
theorem d_Chart_waysBetween_33 : decode b_Chart_waysBetween 33 = .ok (.iconst 1, 1) := by decide +kernel
theorem d_Chart_waysBetween_34 : decode b_Chart_waysBetween 34 = .ok (.goto 4, 3) := by decide +kernel
theorem d_Chart_waysBetween_37 : decode b_Chart_waysBetween 37 = .ok (.iconst 0, 1) := by decide +kernel
theorem d_Chart_waysBetween_38 : decode b_Chart_waysBetween 38 = .ok (.istore 9, 2) := by decide +kernel
theorem d_Chart_waysBetween_40 : decode b_Chart_waysBetween 40 = .ok (.lload_n 3, 1) := by decide +kernel
theorem d_Chart_waysBetween_41 : decode b_Chart_waysBetween 41 = .ok (.aload_n 0, 1) := by decide +kernel
theorem d_Chart_waysBetween_42 : decode b_Chart_waysBetween 42 = .ok (.iload 5, 2) := by decide +kernel
theorem d_Chart_waysBetween_44 : decode b_Chart_waysBetween 44 = .ok (.iload 6, 2) := by decide +kernel
theorem d_Chart_waysBetween_46 : decode b_Chart_waysBetween 46 = .ok (.invokevirtual 150, 3) := by decide +kernel
theorem d_Chart_waysBetween_49 : decode b_Chart_waysBetween 49 = .ok (.lor, 1) := by decide +kernel
theorem d_Chart_waysBetween_50 : decode b_Chart_waysBetween 50 = .ok (.lstore 10, 2) := by decide +kernel
theorem d_Chart_waysBetween_52 : decode b_Chart_waysBetween 52 = .ok (.iload 9, 2) := by decide +kernel
theorem d_Chart_waysBetween_54 : decode b_Chart_waysBetween 54 = .ok (.ifCond .eq 17, 3) := by decide +kernel
theorem d_Chart_waysBetween_57 : decode b_Chart_waysBetween 57 = .ok (.lload 7, 2) := by decide +kernel
theorem d_Chart_waysBetween_59 : decode b_Chart_waysBetween 59 = .ok (.lload 10, 2) := by decide +kernel
theorem d_Chart_waysBetween_61 : decode b_Chart_waysBetween 61 = .ok (.land, 1) := by decide +kernel
theorem d_Chart_waysBetween_62 : decode b_Chart_waysBetween 62 = .ok (.lconst 0, 1) := by decide +kernel
theorem d_Chart_waysBetween_63 : decode b_Chart_waysBetween 63 = .ok (.lcmp, 1) := by decide +kernel
theorem d_Chart_waysBetween_64 : decode b_Chart_waysBetween 64 = .ok (.ifCond .ne 7, 3) := by decide +kernel
theorem d_Chart_waysBetween_67 : decode b_Chart_waysBetween 67 = .ok (.iconst 1, 1) := by decide +kernel
theorem d_Chart_waysBetween_68 : decode b_Chart_waysBetween 68 = .ok (.goto 4, 3) := by decide +kernel
theorem d_Chart_waysBetween_71 : decode b_Chart_waysBetween 71 = .ok (.iconst 2, 1) := by decide +kernel
theorem d_Chart_waysBetween_72 : decode b_Chart_waysBetween 72 = .ok (.ireturn, 1) := by decide +kernel
abbrev b_Chart_waysToEnd : ByteArray := prog_2_method_10_code
def y_Chart_waysToEnd : MethodName := ⟨"SyntaxTrees$Chart", "waysToEnd", "(III)I"⟩
def w_Chart_waysToEnd : List Cond := .code y_Chart_waysToEnd b_Chart_waysToEnd 13 (some .int) :: TBL
theorem hd_Chart_waysToEnd : y_Chart_waysToEnd.cls = "SyntaxTrees$Chart" ∧ y_Chart_waysToEnd.cls ≠ "java/lang/invoke/MethodHandle" ∧ y_Chart_waysToEnd.cls ≠ "java/lang/invoke/VarHandle" ∧ (parseMethodDescriptor y_Chart_waysToEnd.desc).map (fun d => d.parameters.length) = some 3 := by decide +kernel
theorem d_Chart_waysToEnd_0 : decode b_Chart_waysToEnd 0 = .ok (.aload_n 0, 1) := by decide +kernel
theorem d_Chart_waysToEnd_1 : decode b_Chart_waysToEnd 1 = .ok (.getfield 41, 3) := by decide +kernel
theorem d_Chart_waysToEnd_4 : decode b_Chart_waysToEnd 4 = .ok (.iload_n 1, 1) := by decide +kernel
theorem d_Chart_waysToEnd_5 : decode b_Chart_waysToEnd 5 = .ok (.invokevirtual 101, 3) := by decide +kernel
theorem d_Chart_waysToEnd_8 : decode b_Chart_waysToEnd 8 = .ok (.istore 4, 2) := by decide +kernel
theorem d_Chart_waysToEnd_10 : decode b_Chart_waysToEnd 10 = .ok (.iload 4, 2) := by decide +kernel
theorem d_Chart_waysToEnd_12 : decode b_Chart_waysToEnd 12 = .ok (.aload_n 0, 1) := by decide +kernel
theorem d_Chart_waysToEnd_13 : decode b_Chart_waysToEnd 13 = .ok (.getfield 41, 3) := by decide +kernel
theorem d_Chart_waysToEnd_16 : decode b_Chart_waysToEnd 16 = .ok (.iload_n 1, 1) := by decide +kernel
theorem d_Chart_waysToEnd_17 : decode b_Chart_waysToEnd 17 = .ok (.invokevirtual 113, 3) := by decide +kernel
theorem d_Chart_waysToEnd_20 : decode b_Chart_waysToEnd 20 = .ok (.iadd, 1) := by decide +kernel
theorem d_Chart_waysToEnd_21 : decode b_Chart_waysToEnd 21 = .ok (.istore 5, 2) := by decide +kernel
theorem d_Chart_waysToEnd_23 : decode b_Chart_waysToEnd 23 = .ok (.aload_n 0, 1) := by decide +kernel
theorem d_Chart_waysToEnd_24 : decode b_Chart_waysToEnd 24 = .ok (.getfield 41, 3) := by decide +kernel
theorem d_Chart_waysToEnd_27 : decode b_Chart_waysToEnd 27 = .ok (.iload 4, 2) := by decide +kernel
theorem d_Chart_waysToEnd_29 : decode b_Chart_waysToEnd 29 = .ok (.invokevirtual 135, 3) := by decide +kernel
theorem d_Chart_waysToEnd_32 : decode b_Chart_waysToEnd 32 = .ok (.istore 6, 2) := by decide +kernel
theorem d_Chart_waysToEnd_34 : decode b_Chart_waysToEnd 34 = .ok (.aload_n 0, 1) := by decide +kernel
theorem d_Chart_waysToEnd_35 : decode b_Chart_waysToEnd 35 = .ok (.iload 6, 2) := by decide +kernel
theorem d_Chart_waysToEnd_37 : decode b_Chart_waysToEnd 37 = .ok (.iload_n 2, 1) := by decide +kernel
theorem d_Chart_waysToEnd_38 : decode b_Chart_waysToEnd 38 = .ok (.invokevirtual 136, 3) := by decide +kernel
theorem d_Chart_waysToEnd_41 : decode b_Chart_waysToEnd 41 = .ok (.lstore 7, 2) := by decide +kernel
theorem d_Chart_waysToEnd_43 : decode b_Chart_waysToEnd 43 = .ok (.aload_n 0, 1) := by decide +kernel
theorem d_Chart_waysToEnd_44 : decode b_Chart_waysToEnd 44 = .ok (.iload 6, 2) := by decide +kernel
theorem d_Chart_waysToEnd_46 : decode b_Chart_waysToEnd 46 = .ok (.invokevirtual 140, 3) := by decide +kernel
theorem d_Chart_waysToEnd_49 : decode b_Chart_waysToEnd 49 = .ok (.lstore 9, 2) := by decide +kernel
theorem d_Chart_waysToEnd_51 : decode b_Chart_waysToEnd 51 = .ok (.iconst 0, 1) := by decide +kernel
theorem d_Chart_waysToEnd_52 : decode b_Chart_waysToEnd 52 = .ok (.istore 11, 2) := by decide +kernel
theorem d_Chart_waysToEnd_54 : decode b_Chart_waysToEnd 54 = .ok (.iload 4, 2) := by decide +kernel
theorem d_Chart_waysToEnd_56 : decode b_Chart_waysToEnd 56 = .ok (.iconst 1, 1) := by decide +kernel
theorem d_Chart_waysToEnd_57 : decode b_Chart_waysToEnd 57 = .ok (.iadd, 1) := by decide +kernel
theorem d_Chart_waysToEnd_58 : decode b_Chart_waysToEnd 58 = .ok (.istore 12, 2) := by decide +kernel
theorem d_Chart_waysToEnd_60 : decode b_Chart_waysToEnd 60 = .ok (.iload 12, 2) := by decide +kernel
theorem d_Chart_waysToEnd_62 : decode b_Chart_waysToEnd 62 = .ok (.iload 5, 2) := by decide +kernel
theorem d_Chart_waysToEnd_64 : decode b_Chart_waysToEnd 64 = .ok (.if_icmp .ge 93, 3) := by decide +kernel
theorem d_Chart_waysToEnd_67 : decode b_Chart_waysToEnd 67 = .ok (.lload 7, 2) := by decide +kernel
theorem d_Chart_waysToEnd_69 : decode b_Chart_waysToEnd 69 = .ok (.lconst 0, 1) := by decide +kernel
theorem d_Chart_waysToEnd_70 : decode b_Chart_waysToEnd 70 = .ok (.lcmp, 1) := by decide +kernel
theorem d_Chart_waysToEnd_71 : decode b_Chart_waysToEnd 71 = .ok (.ifCond .eq 86, 3) := by decide +kernel
theorem d_Chart_waysToEnd_74 : decode b_Chart_waysToEnd 74 = .ok (.aload_n 0, 1) := by decide +kernel
theorem d_Chart_waysToEnd_75 : decode b_Chart_waysToEnd 75 = .ok (.lload 7, 2) := by decide +kernel
theorem d_Chart_waysToEnd_77 : decode b_Chart_waysToEnd 77 = .ok (.lload 9, 2) := by decide +kernel
theorem d_Chart_waysToEnd_79 : decode b_Chart_waysToEnd 79 = .ok (.aload_n 0, 1) := by decide +kernel
theorem d_Chart_waysToEnd_80 : decode b_Chart_waysToEnd 80 = .ok (.getfield 41, 3) := by decide +kernel
theorem d_Chart_waysToEnd_83 : decode b_Chart_waysToEnd 83 = .ok (.iload 12, 2) := by decide +kernel
theorem d_Chart_waysToEnd_85 : decode b_Chart_waysToEnd 85 = .ok (.invokevirtual 135, 3) := by decide +kernel
theorem d_Chart_waysToEnd_88 : decode b_Chart_waysToEnd 88 = .ok (.iload_n 3, 1) := by decide +kernel
theorem d_Chart_waysToEnd_89 : decode b_Chart_waysToEnd 89 = .ok (.invokevirtual 143, 3) := by decide +kernel
theorem d_Chart_waysToEnd_92 : decode b_Chart_waysToEnd 92 = .ok (.istore 11, 2) := by decide +kernel
theorem d_Chart_waysToEnd_94 : decode b_Chart_waysToEnd 94 = .ok (.iload 11, 2) := by decide +kernel
theorem d_Chart_waysToEnd_96 : decode b_Chart_waysToEnd 96 = .ok (.ifCond .le 17, 3) := by decide +kernel
theorem d_Chart_waysToEnd_99 : decode b_Chart_waysToEnd 99 = .ok (.aload_n 0, 1) := by decide +kernel
theorem d_Chart_waysToEnd_100 : decode b_Chart_waysToEnd 100 = .ok (.getfield 24, 3) := by decide +kernel
theorem d_Chart_waysToEnd_103 : decode b_Chart_waysToEnd 103 = .ok (.iload 12, 2) := by decide +kernel
theorem d_Chart_waysToEnd_105 : decode b_Chart_waysToEnd 105 = .ok (.dup2, 1) := by decide +kernel
theorem d_Chart_waysToEnd_106 : decode b_Chart_waysToEnd 106 = .ok (.laload, 1) := by decide +kernel
theorem d_Chart_waysToEnd_107 : decode b_Chart_waysToEnd 107 = .ok (.iload_n 3, 1) := by decide +kernel
theorem d_Chart_waysToEnd_108 : decode b_Chart_waysToEnd 108 = .ok (.invokestatic 89, 3) := by decide +kernel
theorem d_Chart_waysToEnd_111 : decode b_Chart_waysToEnd 111 = .ok (.lor, 1) := by decide +kernel
theorem d_Chart_waysToEnd_112 : decode b_Chart_waysToEnd 112 = .ok (.lastore, 1) := by decide +kernel
theorem d_Chart_waysToEnd_113 : decode b_Chart_waysToEnd 113 = .ok (.iload 11, 2) := by decide +kernel
theorem d_Chart_waysToEnd_115 : decode b_Chart_waysToEnd 115 = .ok (.iconst 2, 1) := by decide +kernel
theorem d_Chart_waysToEnd_116 : decode b_Chart_waysToEnd 116 = .ok (.if_icmp .ne 17, 3) := by decide +kernel
theorem d_Chart_waysToEnd_119 : decode b_Chart_waysToEnd 119 = .ok (.aload_n 0, 1) := by decide +kernel
theorem d_Chart_waysToEnd_120 : decode b_Chart_waysToEnd 120 = .ok (.getfield 27, 3) := by decide +kernel
theorem d_Chart_waysToEnd_123 : decode b_Chart_waysToEnd 123 = .ok (.iload 12, 2) := by decide +kernel
theorem d_Chart_waysToEnd_125 : decode b_Chart_waysToEnd 125 = .ok (.dup2, 1) := by decide +kernel
theorem d_Chart_waysToEnd_126 : decode b_Chart_waysToEnd 126 = .ok (.laload, 1) := by decide +kernel
theorem d_Chart_waysToEnd_127 : decode b_Chart_waysToEnd 127 = .ok (.iload_n 3, 1) := by decide +kernel
theorem d_Chart_waysToEnd_128 : decode b_Chart_waysToEnd 128 = .ok (.invokestatic 89, 3) := by decide +kernel
theorem d_Chart_waysToEnd_131 : decode b_Chart_waysToEnd 131 = .ok (.lor, 1) := by decide +kernel
theorem d_Chart_waysToEnd_132 : decode b_Chart_waysToEnd 132 = .ok (.lastore, 1) := by decide +kernel
theorem d_Chart_waysToEnd_133 : decode b_Chart_waysToEnd 133 = .ok (.aload_n 0, 1) := by decide +kernel
theorem d_Chart_waysToEnd_134 : decode b_Chart_waysToEnd 134 = .ok (.getfield 24, 3) := by decide +kernel
theorem d_Chart_waysToEnd_137 : decode b_Chart_waysToEnd 137 = .ok (.iload 12, 2) := by decide +kernel
theorem d_Chart_waysToEnd_139 : decode b_Chart_waysToEnd 139 = .ok (.laload, 1) := by decide +kernel
theorem d_Chart_waysToEnd_140 : decode b_Chart_waysToEnd 140 = .ok (.lstore 7, 2) := by decide +kernel
theorem d_Chart_waysToEnd_142 : decode b_Chart_waysToEnd 142 = .ok (.aload_n 0, 1) := by decide +kernel
theorem d_Chart_waysToEnd_143 : decode b_Chart_waysToEnd 143 = .ok (.getfield 27, 3) := by decide +kernel
theorem d_Chart_waysToEnd_146 : decode b_Chart_waysToEnd 146 = .ok (.iload 12, 2) := by decide +kernel
theorem d_Chart_waysToEnd_148 : decode b_Chart_waysToEnd 148 = .ok (.laload, 1) := by decide +kernel
theorem d_Chart_waysToEnd_149 : decode b_Chart_waysToEnd 149 = .ok (.lstore 9, 2) := by decide +kernel
theorem d_Chart_waysToEnd_151 : decode b_Chart_waysToEnd 151 = .ok (.iinc 12 1, 3) := by decide +kernel
theorem d_Chart_waysToEnd_154 : decode b_Chart_waysToEnd 154 = .ok (.goto (-94), 3) := by decide +kernel
theorem d_Chart_waysToEnd_157 : decode b_Chart_waysToEnd 157 = .ok (.iload 11, 2) := by decide +kernel
theorem d_Chart_waysToEnd_159 : decode b_Chart_waysToEnd 159 = .ok (.ireturn, 1) := by decide +kernel
abbrev b_Chart_findTrees : ByteArray := prog_2_method_8_code
def y_Chart_findTrees : MethodName := ⟨"SyntaxTrees$Chart", "findTrees", "(III)V"⟩
def w_Chart_findTrees : List Cond := .code y_Chart_findTrees b_Chart_findTrees 6 none :: TBL
theorem hd_Chart_findTrees : y_Chart_findTrees.cls = "SyntaxTrees$Chart" ∧ y_Chart_findTrees.cls ≠ "java/lang/invoke/MethodHandle" ∧ y_Chart_findTrees.cls ≠ "java/lang/invoke/VarHandle" ∧ (parseMethodDescriptor y_Chart_findTrees.desc).map (fun d => d.parameters.length) = some 3 := by decide +kernel
theorem d_Chart_findTrees_0 : decode b_Chart_findTrees 0 = .ok (.aload_n 0, 1) := by decide +kernel
theorem d_Chart_findTrees_1 : decode b_Chart_findTrees 1 = .ok (.iconst 0, 1) := by decide +kernel
theorem d_Chart_findTrees_2 : decode b_Chart_findTrees 2 = .ok (.putfield 106, 3) := by decide +kernel
theorem d_Chart_findTrees_5 : decode b_Chart_findTrees 5 = .ok (.iconst 0, 1) := by decide +kernel
theorem d_Chart_findTrees_6 : decode b_Chart_findTrees 6 = .ok (.istore 4, 2) := by decide +kernel
theorem d_Chart_findTrees_8 : decode b_Chart_findTrees 8 = .ok (.iload 4, 2) := by decide +kernel
theorem d_Chart_findTrees_10 : decode b_Chart_findTrees 10 = .ok (.aload_n 0, 1) := by decide +kernel
theorem d_Chart_findTrees_11 : decode b_Chart_findTrees 11 = .ok (.getfield 37, 3) := by decide +kernel
theorem d_Chart_findTrees_14 : decode b_Chart_findTrees 14 = .ok (.invokevirtual 97, 3) := by decide +kernel
theorem d_Chart_findTrees_17 : decode b_Chart_findTrees 17 = .ok (.if_icmp .ge 17, 3) := by decide +kernel
theorem d_Chart_findTrees_20 : decode b_Chart_findTrees 20 = .ok (.aload_n 0, 1) := by decide +kernel
theorem d_Chart_findTrees_21 : decode b_Chart_findTrees 21 = .ok (.getfield 30, 3) := by decide +kernel
theorem d_Chart_findTrees_24 : decode b_Chart_findTrees 24 = .ok (.iload 4, 2) := by decide +kernel
theorem d_Chart_findTrees_26 : decode b_Chart_findTrees 26 = .ok (.iconst 0, 1) := by decide +kernel
theorem d_Chart_findTrees_27 : decode b_Chart_findTrees 27 = .ok (.iastore, 1) := by decide +kernel
theorem d_Chart_findTrees_28 : decode b_Chart_findTrees 28 = .ok (.iinc 4 1, 3) := by decide +kernel
theorem d_Chart_findTrees_31 : decode b_Chart_findTrees 31 = .ok (.goto (-23), 3) := by decide +kernel
theorem d_Chart_findTrees_34 : decode b_Chart_findTrees 34 = .ok (.iload_n 2, 1) := by decide +kernel
theorem d_Chart_findTrees_35 : decode b_Chart_findTrees 35 = .ok (.iload_n 1, 1) := by decide +kernel
theorem d_Chart_findTrees_36 : decode b_Chart_findTrees 36 = .ok (.iconst 1, 1) := by decide +kernel
theorem d_Chart_findTrees_37 : decode b_Chart_findTrees 37 = .ok (.iadd, 1) := by decide +kernel
theorem d_Chart_findTrees_38 : decode b_Chart_findTrees 38 = .ok (.if_icmp .ne 15, 3) := by decide +kernel
theorem d_Chart_findTrees_41 : decode b_Chart_findTrees 41 = .ok (.aload_n 0, 1) := by decide +kernel
theorem d_Chart_findTrees_42 : decode b_Chart_findTrees 42 = .ok (.aload_n 0, 1) := by decide +kernel
theorem d_Chart_findTrees_43 : decode b_Chart_findTrees 43 = .ok (.getfield 45, 3) := by decide +kernel
theorem d_Chart_findTrees_46 : decode b_Chart_findTrees 46 = .ok (.iload_n 1, 1) := by decide +kernel
theorem d_Chart_findTrees_47 : decode b_Chart_findTrees 47 = .ok (.invokevirtual 84, 3) := by decide +kernel
theorem d_Chart_findTrees_50 : decode b_Chart_findTrees 50 = .ok (.invokevirtual 109, 3) := by decide +kernel
theorem d_Chart_findTrees_53 : decode b_Chart_findTrees 53 = .ok (.iconst 0, 1) := by decide +kernel
theorem d_Chart_findTrees_54 : decode b_Chart_findTrees 54 = .ok (.istore 4, 2) := by decide +kernel
theorem d_Chart_findTrees_56 : decode b_Chart_findTrees 56 = .ok (.iload 4, 2) := by decide +kernel
theorem d_Chart_findTrees_58 : decode b_Chart_findTrees 58 = .ok (.aload_n 0, 1) := by decide +kernel
theorem d_Chart_findTrees_59 : decode b_Chart_findTrees 59 = .ok (.getfield 59, 3) := by decide +kernel
theorem d_Chart_findTrees_62 : decode b_Chart_findTrees 62 = .ok (.if_icmp .ge 55, 3) := by decide +kernel
theorem d_Chart_findTrees_65 : decode b_Chart_findTrees 65 = .ok (.aload_n 0, 1) := by decide +kernel
theorem d_Chart_findTrees_66 : decode b_Chart_findTrees 66 = .ok (.getfield 41, 3) := by decide +kernel
theorem d_Chart_findTrees_69 : decode b_Chart_findTrees 69 = .ok (.iload 4, 2) := by decide +kernel
theorem d_Chart_findTrees_71 : decode b_Chart_findTrees 71 = .ok (.invokevirtual 113, 3) := by decide +kernel
theorem d_Chart_findTrees_74 : decode b_Chart_findTrees 74 = .ok (.istore 5, 2) := by decide +kernel
theorem d_Chart_findTrees_76 : decode b_Chart_findTrees 76 = .ok (.iload 5, 2) := by decide +kernel
theorem d_Chart_findTrees_78 : decode b_Chart_findTrees 78 = .ok (.iconst 1, 1) := by decide +kernel
theorem d_Chart_findTrees_79 : decode b_Chart_findTrees 79 = .ok (.if_icmp .le 32, 3) := by decide +kernel
theorem d_Chart_findTrees_82 : decode b_Chart_findTrees 82 = .ok (.iload 5, 2) := by decide +kernel
theorem d_Chart_findTrees_84 : decode b_Chart_findTrees 84 = .ok (.iload_n 3, 1) := by decide +kernel
theorem d_Chart_findTrees_85 : decode b_Chart_findTrees 85 = .ok (.iload_n 1, 1) := by decide +kernel
theorem d_Chart_findTrees_86 : decode b_Chart_findTrees 86 = .ok (.isub, 1) := by decide +kernel
theorem d_Chart_findTrees_87 : decode b_Chart_findTrees 87 = .ok (.if_icmp .gt 24, 3) := by decide +kernel
theorem d_Chart_findTrees_90 : decode b_Chart_findTrees 90 = .ok (.aload_n 0, 1) := by decide +kernel
theorem d_Chart_findTrees_91 : decode b_Chart_findTrees 91 = .ok (.aload_n 0, 1) := by decide +kernel
theorem d_Chart_findTrees_92 : decode b_Chart_findTrees 92 = .ok (.getfield 41, 3) := by decide +kernel
theorem d_Chart_findTrees_95 : decode b_Chart_findTrees 95 = .ok (.iload 4, 2) := by decide +kernel
theorem d_Chart_findTrees_97 : decode b_Chart_findTrees 97 = .ok (.invokevirtual 116, 3) := by decide +kernel
theorem d_Chart_findTrees_100 : decode b_Chart_findTrees 100 = .ok (.aload_n 0, 1) := by decide +kernel
theorem d_Chart_findTrees_101 : decode b_Chart_findTrees 101 = .ok (.iload 4, 2) := by decide +kernel
theorem d_Chart_findTrees_103 : decode b_Chart_findTrees 103 = .ok (.iload_n 1, 1) := by decide +kernel
theorem d_Chart_findTrees_104 : decode b_Chart_findTrees 104 = .ok (.iload_n 2, 1) := by decide +kernel
theorem d_Chart_findTrees_105 : decode b_Chart_findTrees 105 = .ok (.invokevirtual 119, 3) := by decide +kernel
theorem d_Chart_findTrees_108 : decode b_Chart_findTrees 108 = .ok (.invokevirtual 123, 3) := by decide +kernel
theorem d_Chart_findTrees_111 : decode b_Chart_findTrees 111 = .ok (.iinc 4 1, 3) := by decide +kernel
theorem d_Chart_findTrees_114 : decode b_Chart_findTrees 114 = .ok (.goto (-58), 3) := by decide +kernel
theorem d_Chart_findTrees_117 : decode b_Chart_findTrees 117 = .ok (.aload_n 0, 1) := by decide +kernel
theorem d_Chart_findTrees_118 : decode b_Chart_findTrees 118 = .ok (.invokevirtual 126, 3) := by decide +kernel
theorem d_Chart_findTrees_121 : decode b_Chart_findTrees 121 = .ok (.return_, 1) := by decide +kernel
abbrev b_Chart_treesOf : ByteArray := prog_2_method_2_code
def y_Chart_treesOf : MethodName := ⟨"SyntaxTrees$Chart", "treesOf", "(IIII)I"⟩
def w_Chart_treesOf : List Cond := .code y_Chart_treesOf b_Chart_treesOf 8 (some .int) :: TBL
theorem hd_Chart_treesOf : y_Chart_treesOf.cls = "SyntaxTrees$Chart" ∧ y_Chart_treesOf.cls ≠ "java/lang/invoke/MethodHandle" ∧ y_Chart_treesOf.cls ≠ "java/lang/invoke/VarHandle" ∧ (parseMethodDescriptor y_Chart_treesOf.desc).map (fun d => d.parameters.length) = some 4 := by decide +kernel
theorem d_Chart_treesOf_0 : decode b_Chart_treesOf 0 = .ok (.aload_n 0, 1) := by decide +kernel
theorem d_Chart_treesOf_1 : decode b_Chart_treesOf 1 = .ok (.getfield 37, 3) := by decide +kernel
theorem d_Chart_treesOf_4 : decode b_Chart_treesOf 4 = .ok (.iload_n 1, 1) := by decide +kernel
theorem d_Chart_treesOf_5 : decode b_Chart_treesOf 5 = .ok (.invokevirtual 49, 3) := by decide +kernel
theorem d_Chart_treesOf_8 : decode b_Chart_treesOf 8 = .ok (.iload 4, 2) := by decide +kernel
theorem d_Chart_treesOf_10 : decode b_Chart_treesOf 10 = .ok (.invokestatic 55, 3) := by decide +kernel
theorem d_Chart_treesOf_13 : decode b_Chart_treesOf 13 = .ok (.istore 5, 2) := by decide +kernel
theorem d_Chart_treesOf_15 : decode b_Chart_treesOf 15 = .ok (.iload 5, 2) := by decide +kernel
theorem d_Chart_treesOf_17 : decode b_Chart_treesOf 17 = .ok (.iconst (-1), 1) := by decide +kernel
theorem d_Chart_treesOf_18 : decode b_Chart_treesOf 18 = .ok (.if_icmp .eq 9, 3) := by decide +kernel
theorem d_Chart_treesOf_21 : decode b_Chart_treesOf 21 = .ok (.iload_n 3, 1) := by decide +kernel
theorem d_Chart_treesOf_22 : decode b_Chart_treesOf 22 = .ok (.iload 4, 2) := by decide +kernel
theorem d_Chart_treesOf_24 : decode b_Chart_treesOf 24 = .ok (.if_icmp .lt 5, 3) := by decide +kernel
theorem d_Chart_treesOf_27 : decode b_Chart_treesOf 27 = .ok (.iconst 0, 1) := by decide +kernel
theorem d_Chart_treesOf_28 : decode b_Chart_treesOf 28 = .ok (.ireturn, 1) := by decide +kernel
theorem d_Chart_treesOf_29 : decode b_Chart_treesOf 29 = .ok (.aload_n 0, 1) := by decide +kernel
theorem d_Chart_treesOf_30 : decode b_Chart_treesOf 30 = .ok (.iload_n 2, 1) := by decide +kernel
theorem d_Chart_treesOf_31 : decode b_Chart_treesOf 31 = .ok (.putfield 59, 3) := by decide +kernel
theorem d_Chart_treesOf_34 : decode b_Chart_treesOf 34 = .ok (.aload_n 0, 1) := by decide +kernel
theorem d_Chart_treesOf_35 : decode b_Chart_treesOf 35 = .ok (.invokevirtual 63, 3) := by decide +kernel
theorem d_Chart_treesOf_38 : decode b_Chart_treesOf 38 = .ok (.iload 4, 2) := by decide +kernel
theorem d_Chart_treesOf_40 : decode b_Chart_treesOf 40 = .ok (.iconst 1, 1) := by decide +kernel
theorem d_Chart_treesOf_41 : decode b_Chart_treesOf 41 = .ok (.isub, 1) := by decide +kernel
theorem d_Chart_treesOf_42 : decode b_Chart_treesOf 42 = .ok (.istore 6, 2) := by decide +kernel
theorem d_Chart_treesOf_44 : decode b_Chart_treesOf 44 = .ok (.iload 6, 2) := by decide +kernel
theorem d_Chart_treesOf_46 : decode b_Chart_treesOf 46 = .ok (.iload_n 3, 1) := by decide +kernel
theorem d_Chart_treesOf_47 : decode b_Chart_treesOf 47 = .ok (.if_icmp .lt 50, 3) := by decide +kernel
theorem d_Chart_treesOf_50 : decode b_Chart_treesOf 50 = .ok (.aload_n 0, 1) := by decide +kernel
theorem d_Chart_treesOf_51 : decode b_Chart_treesOf 51 = .ok (.invokevirtual 66, 3) := by decide +kernel
theorem d_Chart_treesOf_54 : decode b_Chart_treesOf 54 = .ok (.iload 6, 2) := by decide +kernel
theorem d_Chart_treesOf_56 : decode b_Chart_treesOf 56 = .ok (.iconst 1, 1) := by decide +kernel
theorem d_Chart_treesOf_57 : decode b_Chart_treesOf 57 = .ok (.iadd, 1) := by decide +kernel
theorem d_Chart_treesOf_58 : decode b_Chart_treesOf 58 = .ok (.istore 7, 2) := by decide +kernel
theorem d_Chart_treesOf_60 : decode b_Chart_treesOf 60 = .ok (.iload 7, 2) := by decide +kernel
theorem d_Chart_treesOf_62 : decode b_Chart_treesOf 62 = .ok (.iload 4, 2) := by decide +kernel
theorem d_Chart_treesOf_64 : decode b_Chart_treesOf 64 = .ok (.if_icmp .gt 27, 3) := by decide +kernel
theorem d_Chart_treesOf_67 : decode b_Chart_treesOf 67 = .ok (.aload_n 0, 1) := by decide +kernel
theorem d_Chart_treesOf_68 : decode b_Chart_treesOf 68 = .ok (.iload 6, 2) := by decide +kernel
theorem d_Chart_treesOf_70 : decode b_Chart_treesOf 70 = .ok (.iload 7, 2) := by decide +kernel
theorem d_Chart_treesOf_72 : decode b_Chart_treesOf 72 = .ok (.iload 4, 2) := by decide +kernel
theorem d_Chart_treesOf_74 : decode b_Chart_treesOf 74 = .ok (.invokevirtual 69, 3) := by decide +kernel
theorem d_Chart_treesOf_77 : decode b_Chart_treesOf 77 = .ok (.aload_n 0, 1) := by decide +kernel
theorem d_Chart_treesOf_78 : decode b_Chart_treesOf 78 = .ok (.iload 6, 2) := by decide +kernel
theorem d_Chart_treesOf_80 : decode b_Chart_treesOf 80 = .ok (.iload 7, 2) := by decide +kernel
theorem d_Chart_treesOf_82 : decode b_Chart_treesOf 82 = .ok (.invokevirtual 73, 3) := by decide +kernel
theorem d_Chart_treesOf_85 : decode b_Chart_treesOf 85 = .ok (.iinc 7 1, 3) := by decide +kernel
theorem d_Chart_treesOf_88 : decode b_Chart_treesOf 88 = .ok (.goto (-28), 3) := by decide +kernel
theorem d_Chart_treesOf_91 : decode b_Chart_treesOf 91 = .ok (.iinc 6 (-1), 3) := by decide +kernel
theorem d_Chart_treesOf_94 : decode b_Chart_treesOf 94 = .ok (.goto (-50), 3) := by decide +kernel
theorem d_Chart_treesOf_97 : decode b_Chart_treesOf 97 = .ok (.aload_n 0, 1) := by decide +kernel
theorem d_Chart_treesOf_98 : decode b_Chart_treesOf 98 = .ok (.getfield 15, 3) := by decide +kernel
theorem d_Chart_treesOf_101 : decode b_Chart_treesOf 101 = .ok (.iload 5, 2) := by decide +kernel
theorem d_Chart_treesOf_103 : decode b_Chart_treesOf 103 = .ok (.laload, 1) := by decide +kernel
theorem d_Chart_treesOf_104 : decode b_Chart_treesOf 104 = .ok (.iload_n 3, 1) := by decide +kernel
theorem d_Chart_treesOf_105 : decode b_Chart_treesOf 105 = .ok (.invokestatic 77, 3) := by decide +kernel
theorem d_Chart_treesOf_108 : decode b_Chart_treesOf 108 = .ok (.ifCond .eq 5, 3) := by decide +kernel
theorem d_Chart_treesOf_111 : decode b_Chart_treesOf 111 = .ok (.iconst 2, 1) := by decide +kernel
theorem d_Chart_treesOf_112 : decode b_Chart_treesOf 112 = .ok (.ireturn, 1) := by decide +kernel
theorem d_Chart_treesOf_113 : decode b_Chart_treesOf 113 = .ok (.aload_n 0, 1) := by decide +kernel
theorem d_Chart_treesOf_114 : decode b_Chart_treesOf 114 = .ok (.getfield 9, 3) := by decide +kernel
theorem d_Chart_treesOf_117 : decode b_Chart_treesOf 117 = .ok (.iload 5, 2) := by decide +kernel
theorem d_Chart_treesOf_119 : decode b_Chart_treesOf 119 = .ok (.laload, 1) := by decide +kernel
theorem d_Chart_treesOf_120 : decode b_Chart_treesOf 120 = .ok (.iload_n 3, 1) := by decide +kernel
theorem d_Chart_treesOf_121 : decode b_Chart_treesOf 121 = .ok (.invokestatic 77, 3) := by decide +kernel
theorem d_Chart_treesOf_124 : decode b_Chart_treesOf 124 = .ok (.ifCond .eq 7, 3) := by decide +kernel
theorem d_Chart_treesOf_127 : decode b_Chart_treesOf 127 = .ok (.iconst 1, 1) := by decide +kernel
theorem d_Chart_treesOf_128 : decode b_Chart_treesOf 128 = .ok (.goto 4, 3) := by decide +kernel
theorem d_Chart_treesOf_131 : decode b_Chart_treesOf 131 = .ok (.iconst 0, 1) := by decide +kernel
theorem d_Chart_treesOf_132 : decode b_Chart_treesOf 132 = .ok (.ireturn, 1) := by decide +kernel
