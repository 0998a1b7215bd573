abbrev b_Symbols_init : ByteArray := prog_5_method_1_code
def y_Symbols_init : MethodName := ⟨"SyntaxTrees$Symbols", "<init>", "()V"⟩
def w_Symbols_init : List Cond := .code y_Symbols_init b_Symbols_init 1 none :: TBL
theorem hd_Symbols_init : y_Symbols_init.cls = "SyntaxTrees$Symbols" ∧ y_Symbols_init.cls ≠ "java/lang/invoke/MethodHandle" ∧ y_Symbols_init.cls ≠ "java/lang/invoke/VarHandle" ∧ (parseMethodDescriptor y_Symbols_init.desc).map (fun d => d.parameters.length) = some 0 := by decide +kernel
theorem d_Symbols_init_0 : decode b_Symbols_init 0 = .ok (.aload_n 0, 1) := by decide +kernel
theorem d_Symbols_init_1 : decode b_Symbols_init 1 = .ok (.invokespecial 3, 3) := by decide +kernel
theorem d_Symbols_init_4 : decode b_Symbols_init 4 = .ok (.aload_n 0, 1) := by decide +kernel
theorem d_Symbols_init_5 : decode b_Symbols_init 5 = .ok (.sipush 1000, 3) := by decide +kernel
theorem d_Symbols_init_8 : decode b_Symbols_init 8 = .ok (.newarray .int, 2) := by decide +kernel
theorem d_Symbols_init_10 : decode b_Symbols_init 10 = .ok (.putfield 9, 3) := by decide +kernel
theorem d_Symbols_init_13 : decode b_Symbols_init 13 = .ok (.aload_n 0, 1) := by decide +kernel
theorem d_Symbols_init_14 : decode b_Symbols_init 14 = .ok (.sipush 1000, 3) := by decide +kernel
theorem d_Symbols_init_17 : decode b_Symbols_init 17 = .ok (.newarray .int, 2) := by decide +kernel
theorem d_Symbols_init_19 : decode b_Symbols_init 19 = .ok (.putfield 15, 3) := by decide +kernel
theorem d_Symbols_init_22 : decode b_Symbols_init 22 = .ok (.aload_n 0, 1) := by decide +kernel
theorem d_Symbols_init_23 : decode b_Symbols_init 23 = .ok (.sipush 1000, 3) := by decide +kernel
theorem d_Symbols_init_26 : decode b_Symbols_init 26 = .ok (.newarray .int, 2) := by decide +kernel
theorem d_Symbols_init_28 : decode b_Symbols_init 28 = .ok (.putfield 18, 3) := by decide +kernel
theorem d_Symbols_init_31 : decode b_Symbols_init 31 = .ok (.return_, 1) := by decide +kernel
abbrev b_Symbols_size : ByteArray := prog_5_method_2_code
def y_Symbols_size : MethodName := ⟨"SyntaxTrees$Symbols", "size", "()I"⟩
def w_Symbols_size : List Cond := .code y_Symbols_size b_Symbols_size 1 (some .int) :: TBL
theorem hd_Symbols_size : y_Symbols_size.cls = "SyntaxTrees$Symbols" ∧ y_Symbols_size.cls ≠ "java/lang/invoke/MethodHandle" ∧ y_Symbols_size.cls ≠ "java/lang/invoke/VarHandle" ∧ (parseMethodDescriptor y_Symbols_size.desc).map (fun d => d.parameters.length) = some 0 := by decide +kernel
theorem d_Symbols_size_0 : decode b_Symbols_size 0 = .ok (.aload_n 0, 1) := by decide +kernel
theorem d_Symbols_size_1 : decode b_Symbols_size 1 = .ok (.getfield 21, 3) := by decide +kernel
theorem d_Symbols_size_4 : decode b_Symbols_size 4 = .ok (.ireturn, 1) := by decide +kernel
abbrev b_Symbols_sorts : ByteArray := prog_5_method_3_code
def y_Symbols_sorts : MethodName := ⟨"SyntaxTrees$Symbols", "sorts", "()I"⟩
def w_Symbols_sorts : List Cond := .code y_Symbols_sorts b_Symbols_sorts 1 (some .int) :: TBL
theorem hd_Symbols_sorts : y_Symbols_sorts.cls = "SyntaxTrees$Symbols" ∧ y_Symbols_sorts.cls ≠ "java/lang/invoke/MethodHandle" ∧ y_Symbols_sorts.cls ≠ "java/lang/invoke/VarHandle" ∧ (parseMethodDescriptor y_Symbols_sorts.desc).map (fun d => d.parameters.length) = some 0 := by decide +kernel
theorem d_Symbols_sorts_0 : decode b_Symbols_sorts 0 = .ok (.aload_n 0, 1) := by decide +kernel
theorem d_Symbols_sorts_1 : decode b_Symbols_sorts 1 = .ok (.getfield 25, 3) := by decide +kernel
theorem d_Symbols_sorts_4 : decode b_Symbols_sorts 4 = .ok (.ireturn, 1) := by decide +kernel
abbrev b_Symbols_has : ByteArray := prog_5_method_4_code
def y_Symbols_has : MethodName := ⟨"SyntaxTrees$Symbols", "has", "(I)Z"⟩
def w_Symbols_has : List Cond := .code y_Symbols_has b_Symbols_has 2 (some .boolean) :: TBL
theorem hd_Symbols_has : y_Symbols_has.cls = "SyntaxTrees$Symbols" ∧ y_Symbols_has.cls ≠ "java/lang/invoke/MethodHandle" ∧ y_Symbols_has.cls ≠ "java/lang/invoke/VarHandle" ∧ (parseMethodDescriptor y_Symbols_has.desc).map (fun d => d.parameters.length) = some 1 := by decide +kernel
theorem d_Symbols_has_0 : decode b_Symbols_has 0 = .ok (.iload_n 1, 1) := by decide +kernel
theorem d_Symbols_has_1 : decode b_Symbols_has 1 = .ok (.ifCond .lt 15, 3) := by decide +kernel
theorem d_Symbols_has_4 : decode b_Symbols_has 4 = .ok (.iload_n 1, 1) := by decide +kernel
theorem d_Symbols_has_5 : decode b_Symbols_has 5 = .ok (.aload_n 0, 1) := by decide +kernel
theorem d_Symbols_has_6 : decode b_Symbols_has 6 = .ok (.getfield 21, 3) := by decide +kernel
theorem d_Symbols_has_9 : decode b_Symbols_has 9 = .ok (.if_icmp .ge 7, 3) := by decide +kernel
theorem d_Symbols_has_12 : decode b_Symbols_has 12 = .ok (.iconst 1, 1) := by decide +kernel
theorem d_Symbols_has_13 : decode b_Symbols_has 13 = .ok (.goto 4, 3) := by decide +kernel
theorem d_Symbols_has_16 : decode b_Symbols_has 16 = .ok (.iconst 0, 1) := by decide +kernel
theorem d_Symbols_has_17 : decode b_Symbols_has 17 = .ok (.ireturn, 1) := by decide +kernel
abbrev b_Symbols_isConstant : ByteArray := prog_5_method_5_code
def y_Symbols_isConstant : MethodName := ⟨"SyntaxTrees$Symbols", "isConstant", "(I)Z"⟩
def w_Symbols_isConstant : List Cond := .code y_Symbols_isConstant b_Symbols_isConstant 2 (some .boolean) :: TBL
theorem hd_Symbols_isConstant : y_Symbols_isConstant.cls = "SyntaxTrees$Symbols" ∧ y_Symbols_isConstant.cls ≠ "java/lang/invoke/MethodHandle" ∧ y_Symbols_isConstant.cls ≠ "java/lang/invoke/VarHandle" ∧ (parseMethodDescriptor y_Symbols_isConstant.desc).map (fun d => d.parameters.length) = some 1 := by decide +kernel
theorem d_Symbols_isConstant_0 : decode b_Symbols_isConstant 0 = .ok (.aload_n 0, 1) := by decide +kernel
theorem d_Symbols_isConstant_1 : decode b_Symbols_isConstant 1 = .ok (.iload_n 1, 1) := by decide +kernel
theorem d_Symbols_isConstant_2 : decode b_Symbols_isConstant 2 = .ok (.invokevirtual 28, 3) := by decide +kernel
theorem d_Symbols_isConstant_5 : decode b_Symbols_isConstant 5 = .ok (.ifCond .eq 17, 3) := by decide +kernel
theorem d_Symbols_isConstant_8 : decode b_Symbols_isConstant 8 = .ok (.aload_n 0, 1) := by decide +kernel
theorem d_Symbols_isConstant_9 : decode b_Symbols_isConstant 9 = .ok (.getfield 9, 3) := by decide +kernel
theorem d_Symbols_isConstant_12 : decode b_Symbols_isConstant 12 = .ok (.iload_n 1, 1) := by decide +kernel
theorem d_Symbols_isConstant_13 : decode b_Symbols_isConstant 13 = .ok (.iaload, 1) := by decide +kernel
theorem d_Symbols_isConstant_14 : decode b_Symbols_isConstant 14 = .ok (.iconst (-1), 1) := by decide +kernel
theorem d_Symbols_isConstant_15 : decode b_Symbols_isConstant 15 = .ok (.if_icmp .ne 7, 3) := by decide +kernel
theorem d_Symbols_isConstant_18 : decode b_Symbols_isConstant 18 = .ok (.iconst 1, 1) := by decide +kernel
theorem d_Symbols_isConstant_19 : decode b_Symbols_isConstant 19 = .ok (.goto 4, 3) := by decide +kernel
theorem d_Symbols_isConstant_22 : decode b_Symbols_isConstant 22 = .ok (.iconst 0, 1) := by decide +kernel
theorem d_Symbols_isConstant_23 : decode b_Symbols_isConstant 23 = .ok (.ireturn, 1) := by decide +kernel
abbrev b_Symbols_isVariable : ByteArray := prog_5_method_6_code
def y_Symbols_isVariable : MethodName := ⟨"SyntaxTrees$Symbols", "isVariable", "(I)Z"⟩
def w_Symbols_isVariable : List Cond := .code y_Symbols_isVariable b_Symbols_isVariable 2 (some .boolean) :: TBL
theorem hd_Symbols_isVariable : y_Symbols_isVariable.cls = "SyntaxTrees$Symbols" ∧ y_Symbols_isVariable.cls ≠ "java/lang/invoke/MethodHandle" ∧ y_Symbols_isVariable.cls ≠ "java/lang/invoke/VarHandle" ∧ (parseMethodDescriptor y_Symbols_isVariable.desc).map (fun d => d.parameters.length) = some 1 := by decide +kernel
theorem d_Symbols_isVariable_0 : decode b_Symbols_isVariable 0 = .ok (.aload_n 0, 1) := by decide +kernel
theorem d_Symbols_isVariable_1 : decode b_Symbols_isVariable 1 = .ok (.iload_n 1, 1) := by decide +kernel
theorem d_Symbols_isVariable_2 : decode b_Symbols_isVariable 2 = .ok (.invokevirtual 28, 3) := by decide +kernel
theorem d_Symbols_isVariable_5 : decode b_Symbols_isVariable 5 = .ok (.ifCond .eq 17, 3) := by decide +kernel
theorem d_Symbols_isVariable_8 : decode b_Symbols_isVariable 8 = .ok (.aload_n 0, 1) := by decide +kernel
theorem d_Symbols_isVariable_9 : decode b_Symbols_isVariable 9 = .ok (.getfield 9, 3) := by decide +kernel
theorem d_Symbols_isVariable_12 : decode b_Symbols_isVariable 12 = .ok (.iload_n 1, 1) := by decide +kernel
theorem d_Symbols_isVariable_13 : decode b_Symbols_isVariable 13 = .ok (.iaload, 1) := by decide +kernel
theorem d_Symbols_isVariable_14 : decode b_Symbols_isVariable 14 = .ok (.iconst (-1), 1) := by decide +kernel
theorem d_Symbols_isVariable_15 : decode b_Symbols_isVariable 15 = .ok (.if_icmp .eq 7, 3) := by decide +kernel
theorem d_Symbols_isVariable_18 : decode b_Symbols_isVariable 18 = .ok (.iconst 1, 1) := by decide +kernel
theorem d_Symbols_isVariable_19 : decode b_Symbols_isVariable 19 = .ok (.goto 4, 3) := by decide +kernel
theorem d_Symbols_isVariable_22 : decode b_Symbols_isVariable 22 = .ok (.iconst 0, 1) := by decide +kernel
theorem d_Symbols_isVariable_23 : decode b_Symbols_isVariable 23 = .ok (.ireturn, 1) := by decide +kernel
abbrev b_Symbols_typeOf : ByteArray := prog_5_method_7_code
def y_Symbols_typeOf : MethodName := ⟨"SyntaxTrees$Symbols", "typeOf", "(I)I"⟩
def w_Symbols_typeOf : List Cond := .code y_Symbols_typeOf b_Symbols_typeOf 2 (some .int) :: TBL
theorem hd_Symbols_typeOf : y_Symbols_typeOf.cls = "SyntaxTrees$Symbols" ∧ y_Symbols_typeOf.cls ≠ "java/lang/invoke/MethodHandle" ∧ y_Symbols_typeOf.cls ≠ "java/lang/invoke/VarHandle" ∧ (parseMethodDescriptor y_Symbols_typeOf.desc).map (fun d => d.parameters.length) = some 1 := by decide +kernel
theorem d_Symbols_typeOf_0 : decode b_Symbols_typeOf 0 = .ok (.aload_n 0, 1) := by decide +kernel
theorem d_Symbols_typeOf_1 : decode b_Symbols_typeOf 1 = .ok (.iload_n 1, 1) := by decide +kernel
theorem d_Symbols_typeOf_2 : decode b_Symbols_typeOf 2 = .ok (.invokevirtual 28, 3) := by decide +kernel
theorem d_Symbols_typeOf_5 : decode b_Symbols_typeOf 5 = .ok (.ifCond .eq 12, 3) := by decide +kernel
theorem d_Symbols_typeOf_8 : decode b_Symbols_typeOf 8 = .ok (.aload_n 0, 1) := by decide +kernel
theorem d_Symbols_typeOf_9 : decode b_Symbols_typeOf 9 = .ok (.getfield 9, 3) := by decide +kernel
theorem d_Symbols_typeOf_12 : decode b_Symbols_typeOf 12 = .ok (.iload_n 1, 1) := by decide +kernel
theorem d_Symbols_typeOf_13 : decode b_Symbols_typeOf 13 = .ok (.iaload, 1) := by decide +kernel
theorem d_Symbols_typeOf_14 : decode b_Symbols_typeOf 14 = .ok (.goto 4, 3) := by decide +kernel
theorem d_Symbols_typeOf_17 : decode b_Symbols_typeOf 17 = .ok (.iconst (-1), 1) := by decide +kernel
theorem d_Symbols_typeOf_18 : decode b_Symbols_typeOf 18 = .ok (.ireturn, 1) := by decide +kernel
abbrev b_Symbols_rankOf : ByteArray := prog_5_method_8_code
def y_Symbols_rankOf : MethodName := ⟨"SyntaxTrees$Symbols", "rankOf", "(I)I"⟩
def w_Symbols_rankOf : List Cond := .code y_Symbols_rankOf b_Symbols_rankOf 2 (some .int) :: TBL
theorem hd_Symbols_rankOf : y_Symbols_rankOf.cls = "SyntaxTrees$Symbols" ∧ y_Symbols_rankOf.cls ≠ "java/lang/invoke/MethodHandle" ∧ y_Symbols_rankOf.cls ≠ "java/lang/invoke/VarHandle" ∧ (parseMethodDescriptor y_Symbols_rankOf.desc).map (fun d => d.parameters.length) = some 1 := by decide +kernel
theorem d_Symbols_rankOf_0 : decode b_Symbols_rankOf 0 = .ok (.aload_n 0, 1) := by decide +kernel
theorem d_Symbols_rankOf_1 : decode b_Symbols_rankOf 1 = .ok (.iload_n 1, 1) := by decide +kernel
theorem d_Symbols_rankOf_2 : decode b_Symbols_rankOf 2 = .ok (.invokevirtual 28, 3) := by decide +kernel
theorem d_Symbols_rankOf_5 : decode b_Symbols_rankOf 5 = .ok (.ifCond .eq 12, 3) := by decide +kernel
theorem d_Symbols_rankOf_8 : decode b_Symbols_rankOf 8 = .ok (.aload_n 0, 1) := by decide +kernel
theorem d_Symbols_rankOf_9 : decode b_Symbols_rankOf 9 = .ok (.getfield 15, 3) := by decide +kernel
theorem d_Symbols_rankOf_12 : decode b_Symbols_rankOf 12 = .ok (.iload_n 1, 1) := by decide +kernel
theorem d_Symbols_rankOf_13 : decode b_Symbols_rankOf 13 = .ok (.iaload, 1) := by decide +kernel
theorem d_Symbols_rankOf_14 : decode b_Symbols_rankOf 14 = .ok (.goto 4, 3) := by decide +kernel
theorem d_Symbols_rankOf_17 : decode b_Symbols_rankOf 17 = .ok (.iconst (-1), 1) := by decide +kernel
theorem d_Symbols_rankOf_18 : decode b_Symbols_rankOf 18 = .ok (.ireturn, 1) := by decide +kernel
abbrev b_Symbols_typeRankOf : ByteArray := prog_5_method_9_code
def y_Symbols_typeRankOf : MethodName := ⟨"SyntaxTrees$Symbols", "typeRankOf", "(I)I"⟩
def w_Symbols_typeRankOf : List Cond := .code y_Symbols_typeRankOf b_Symbols_typeRankOf 2 (some .int) :: TBL
theorem hd_Symbols_typeRankOf : y_Symbols_typeRankOf.cls = "SyntaxTrees$Symbols" ∧ y_Symbols_typeRankOf.cls ≠ "java/lang/invoke/MethodHandle" ∧ y_Symbols_typeRankOf.cls ≠ "java/lang/invoke/VarHandle" ∧ (parseMethodDescriptor y_Symbols_typeRankOf.desc).map (fun d => d.parameters.length) = some 1 := by decide +kernel
theorem d_Symbols_typeRankOf_0 : decode b_Symbols_typeRankOf 0 = .ok (.aload_n 0, 1) := by decide +kernel
theorem d_Symbols_typeRankOf_1 : decode b_Symbols_typeRankOf 1 = .ok (.iload_n 1, 1) := by decide +kernel
theorem d_Symbols_typeRankOf_2 : decode b_Symbols_typeRankOf 2 = .ok (.invokevirtual 28, 3) := by decide +kernel
theorem d_Symbols_typeRankOf_5 : decode b_Symbols_typeRankOf 5 = .ok (.ifCond .eq 12, 3) := by decide +kernel
theorem d_Symbols_typeRankOf_8 : decode b_Symbols_typeRankOf 8 = .ok (.aload_n 0, 1) := by decide +kernel
theorem d_Symbols_typeRankOf_9 : decode b_Symbols_typeRankOf 9 = .ok (.getfield 18, 3) := by decide +kernel
theorem d_Symbols_typeRankOf_12 : decode b_Symbols_typeRankOf 12 = .ok (.iload_n 1, 1) := by decide +kernel
theorem d_Symbols_typeRankOf_13 : decode b_Symbols_typeRankOf 13 = .ok (.iaload, 1) := by decide +kernel
theorem d_Symbols_typeRankOf_14 : decode b_Symbols_typeRankOf 14 = .ok (.goto 4, 3) := by decide +kernel
theorem d_Symbols_typeRankOf_17 : decode b_Symbols_typeRankOf 17 = .ok (.iconst (-1), 1) := by decide +kernel
theorem d_Symbols_typeRankOf_18 : decode b_Symbols_typeRankOf 18 = .ok (.ireturn, 1) := by decide +kernel
abbrev b_Symbols_becomesSort : ByteArray := prog_5_method_12_code
def y_Symbols_becomesSort : MethodName := ⟨"SyntaxTrees$Symbols", "becomesSort", "(I)Z"⟩
def w_Symbols_becomesSort : List Cond := .code y_Symbols_becomesSort b_Symbols_becomesSort 2 (some .boolean) :: TBL
theorem hd_Symbols_becomesSort : y_Symbols_becomesSort.cls = "SyntaxTrees$Symbols" ∧ y_Symbols_becomesSort.cls ≠ "java/lang/invoke/MethodHandle" ∧ y_Symbols_becomesSort.cls ≠ "java/lang/invoke/VarHandle" ∧ (parseMethodDescriptor y_Symbols_becomesSort.desc).map (fun d => d.parameters.length) = some 1 := by decide +kernel
theorem d_Symbols_becomesSort_0 : decode b_Symbols_becomesSort 0 = .ok (.aload_n 0, 1) := by decide +kernel
theorem d_Symbols_becomesSort_1 : decode b_Symbols_becomesSort 1 = .ok (.iload_n 1, 1) := by decide +kernel
theorem d_Symbols_becomesSort_2 : decode b_Symbols_becomesSort 2 = .ok (.invokevirtual 43, 3) := by decide +kernel
theorem d_Symbols_becomesSort_5 : decode b_Symbols_becomesSort 5 = .ok (.ifCond .ne 5, 3) := by decide +kernel
theorem d_Symbols_becomesSort_8 : decode b_Symbols_becomesSort 8 = .ok (.iconst 0, 1) := by decide +kernel
theorem d_Symbols_becomesSort_9 : decode b_Symbols_becomesSort 9 = .ok (.ireturn, 1) := by decide +kernel
theorem d_Symbols_becomesSort_10 : decode b_Symbols_becomesSort 10 = .ok (.aload_n 0, 1) := by decide +kernel
theorem d_Symbols_becomesSort_11 : decode b_Symbols_becomesSort 11 = .ok (.getfield 15, 3) := by decide +kernel
theorem d_Symbols_becomesSort_14 : decode b_Symbols_becomesSort 14 = .ok (.iload_n 1, 1) := by decide +kernel
theorem d_Symbols_becomesSort_15 : decode b_Symbols_becomesSort 15 = .ok (.iaload, 1) := by decide +kernel
theorem d_Symbols_becomesSort_16 : decode b_Symbols_becomesSort 16 = .ok (.iconst (-1), 1) := by decide +kernel
theorem d_Symbols_becomesSort_17 : decode b_Symbols_becomesSort 17 = .ok (.if_icmp .ne 32, 3) := by decide +kernel
theorem d_Symbols_becomesSort_20 : decode b_Symbols_becomesSort 20 = .ok (.aload_n 0, 1) := by decide +kernel
theorem d_Symbols_becomesSort_21 : decode b_Symbols_becomesSort 21 = .ok (.getfield 25, 3) := by decide +kernel
theorem d_Symbols_becomesSort_24 : decode b_Symbols_becomesSort 24 = .ok (.bipush 100, 2) := by decide +kernel
theorem d_Symbols_becomesSort_26 : decode b_Symbols_becomesSort 26 = .ok (.if_icmp .ge 23, 3) := by decide +kernel
theorem d_Symbols_becomesSort_29 : decode b_Symbols_becomesSort 29 = .ok (.aload_n 0, 1) := by decide +kernel
theorem d_Symbols_becomesSort_30 : decode b_Symbols_becomesSort 30 = .ok (.getfield 15, 3) := by decide +kernel
theorem d_Symbols_becomesSort_33 : decode b_Symbols_becomesSort 33 = .ok (.iload_n 1, 1) := by decide +kernel
theorem d_Symbols_becomesSort_34 : decode b_Symbols_becomesSort 34 = .ok (.aload_n 0, 1) := by decide +kernel
theorem d_Symbols_becomesSort_35 : decode b_Symbols_becomesSort 35 = .ok (.getfield 25, 3) := by decide +kernel
theorem d_Symbols_becomesSort_38 : decode b_Symbols_becomesSort 38 = .ok (.iastore, 1) := by decide +kernel
theorem d_Symbols_becomesSort_39 : decode b_Symbols_becomesSort 39 = .ok (.aload_n 0, 1) := by decide +kernel
theorem d_Symbols_becomesSort_40 : decode b_Symbols_becomesSort 40 = .ok (.dup, 1) := by decide +kernel
theorem d_Symbols_becomesSort_41 : decode b_Symbols_becomesSort 41 = .ok (.getfield 25, 3) := by decide +kernel
theorem d_Symbols_becomesSort_44 : decode b_Symbols_becomesSort 44 = .ok (.iconst 1, 1) := by decide +kernel
theorem d_Symbols_becomesSort_45 : decode b_Symbols_becomesSort 45 = .ok (.iadd, 1) := by decide +kernel
theorem d_Symbols_becomesSort_46 : decode b_Symbols_becomesSort 46 = .ok (.putfield 25, 3) := by decide +kernel
theorem d_Symbols_becomesSort_49 : decode b_Symbols_becomesSort 49 = .ok (.aload_n 0, 1) := by decide +kernel
theorem d_Symbols_becomesSort_50 : decode b_Symbols_becomesSort 50 = .ok (.getfield 15, 3) := by decide +kernel
theorem d_Symbols_becomesSort_53 : decode b_Symbols_becomesSort 53 = .ok (.iload_n 1, 1) := by decide +kernel
theorem d_Symbols_becomesSort_54 : decode b_Symbols_becomesSort 54 = .ok (.iaload, 1) := by decide +kernel
theorem d_Symbols_becomesSort_55 : decode b_Symbols_becomesSort 55 = .ok (.iconst (-1), 1) := by decide +kernel
theorem d_Symbols_becomesSort_56 : decode b_Symbols_becomesSort 56 = .ok (.if_icmp .eq 7, 3) := by decide +kernel
theorem d_Symbols_becomesSort_59 : decode b_Symbols_becomesSort 59 = .ok (.iconst 1, 1) := by decide +kernel
theorem d_Symbols_becomesSort_60 : decode b_Symbols_becomesSort 60 = .ok (.goto 4, 3) := by decide +kernel
theorem d_Symbols_becomesSort_63 : decode b_Symbols_becomesSort 63 = .ok (.iconst 0, 1) := by decide +kernel
theorem d_Symbols_becomesSort_64 : decode b_Symbols_becomesSort 64 = .ok (.ireturn, 1) := by decide +kernel
abbrev b_Symbols_append : ByteArray := prog_5_method_13_code
def y_Symbols_append : MethodName := ⟨"SyntaxTrees$Symbols", "append", "(II)I"⟩
def w_Symbols_append : List Cond := .code y_Symbols_append b_Symbols_append 3 (some .int) :: TBL
theorem hd_Symbols_append : y_Symbols_append.cls = "SyntaxTrees$Symbols" ∧ y_Symbols_append.cls ≠ "java/lang/invoke/MethodHandle" ∧ y_Symbols_append.cls ≠ "java/lang/invoke/VarHandle" ∧ (parseMethodDescriptor y_Symbols_append.desc).map (fun d => d.parameters.length) = some 2 := by decide +kernel
theorem d_Symbols_append_0 : decode b_Symbols_append 0 = .ok (.aload_n 0, 1) := by decide +kernel
theorem d_Symbols_append_1 : decode b_Symbols_append 1 = .ok (.getfield 9, 3) := by decide +kernel
theorem d_Symbols_append_4 : decode b_Symbols_append 4 = .ok (.aload_n 0, 1) := by decide +kernel
theorem d_Symbols_append_5 : decode b_Symbols_append 5 = .ok (.getfield 21, 3) := by decide +kernel
theorem d_Symbols_append_8 : decode b_Symbols_append 8 = .ok (.iload_n 1, 1) := by decide +kernel
theorem d_Symbols_append_9 : decode b_Symbols_append 9 = .ok (.iastore, 1) := by decide +kernel
theorem d_Symbols_append_10 : decode b_Symbols_append 10 = .ok (.aload_n 0, 1) := by decide +kernel
theorem d_Symbols_append_11 : decode b_Symbols_append 11 = .ok (.getfield 15, 3) := by decide +kernel
theorem d_Symbols_append_14 : decode b_Symbols_append 14 = .ok (.aload_n 0, 1) := by decide +kernel
theorem d_Symbols_append_15 : decode b_Symbols_append 15 = .ok (.getfield 21, 3) := by decide +kernel
theorem d_Symbols_append_18 : decode b_Symbols_append 18 = .ok (.iconst (-1), 1) := by decide +kernel
theorem d_Symbols_append_19 : decode b_Symbols_append 19 = .ok (.iastore, 1) := by decide +kernel
theorem d_Symbols_append_20 : decode b_Symbols_append 20 = .ok (.aload_n 0, 1) := by decide +kernel
theorem d_Symbols_append_21 : decode b_Symbols_append 21 = .ok (.getfield 18, 3) := by decide +kernel
theorem d_Symbols_append_24 : decode b_Symbols_append 24 = .ok (.aload_n 0, 1) := by decide +kernel
theorem d_Symbols_append_25 : decode b_Symbols_append 25 = .ok (.getfield 21, 3) := by decide +kernel
theorem d_Symbols_append_28 : decode b_Symbols_append 28 = .ok (.iload_n 2, 1) := by decide +kernel
theorem d_Symbols_append_29 : decode b_Symbols_append 29 = .ok (.iastore, 1) := by decide +kernel
theorem d_Symbols_append_30 : decode b_Symbols_append 30 = .ok (.aload_n 0, 1) := by decide +kernel
theorem d_Symbols_append_31 : decode b_Symbols_append 31 = .ok (.dup, 1) := by decide +kernel
theorem d_Symbols_append_32 : decode b_Symbols_append 32 = .ok (.getfield 21, 3) := by decide +kernel
theorem d_Symbols_append_35 : decode b_Symbols_append 35 = .ok (.iconst 1, 1) := by decide +kernel
theorem d_Symbols_append_36 : decode b_Symbols_append 36 = .ok (.iadd, 1) := by decide +kernel
theorem d_Symbols_append_37 : decode b_Symbols_append 37 = .ok (.putfield 21, 3) := by decide +kernel
theorem d_Symbols_append_40 : decode b_Symbols_append 40 = .ok (.aload_n 0, 1) := by decide +kernel
theorem d_Symbols_append_41 : decode b_Symbols_append 41 = .ok (.getfield 21, 3) := by decide +kernel
theorem d_Symbols_append_44 : decode b_Symbols_append 44 = .ok (.iconst 1, 1) := by decide +kernel
theorem d_Symbols_append_45 : decode b_Symbols_append 45 = .ok (.isub, 1) := by decide +kernel
theorem d_Symbols_append_46 : decode b_Symbols_append 46 = .ok (.ireturn, 1) := by decide +kernel
abbrev b_Symbols_newConstant : ByteArray := prog_5_method_10_code
def y_Symbols_newConstant : MethodName := ⟨"SyntaxTrees$Symbols", "newConstant", "()I"⟩
def w_Symbols_newConstant : List Cond := .code y_Symbols_newConstant b_Symbols_newConstant 1 (some .int) :: TBL
theorem hd_Symbols_newConstant : y_Symbols_newConstant.cls = "SyntaxTrees$Symbols" ∧ y_Symbols_newConstant.cls ≠ "java/lang/invoke/MethodHandle" ∧ y_Symbols_newConstant.cls ≠ "java/lang/invoke/VarHandle" ∧ (parseMethodDescriptor y_Symbols_newConstant.desc).map (fun d => d.parameters.length) = some 0 := by decide +kernel
theorem d_Symbols_newConstant_0 : decode b_Symbols_newConstant 0 = .ok (.aload_n 0, 1) := by decide +kernel
theorem d_Symbols_newConstant_1 : decode b_Symbols_newConstant 1 = .ok (.getfield 21, 3) := by decide +kernel
theorem d_Symbols_newConstant_4 : decode b_Symbols_newConstant 4 = .ok (.sipush 1000, 3) := by decide +kernel
theorem d_Symbols_newConstant_7 : decode b_Symbols_newConstant 7 = .ok (.if_icmp .ge 12, 3) := by decide +kernel
theorem d_Symbols_newConstant_10 : decode b_Symbols_newConstant 10 = .ok (.aload_n 0, 1) := by decide +kernel
theorem d_Symbols_newConstant_11 : decode b_Symbols_newConstant 11 = .ok (.iconst (-1), 1) := by decide +kernel
theorem d_Symbols_newConstant_12 : decode b_Symbols_newConstant 12 = .ok (.iconst (-1), 1) := by decide +kernel
theorem d_Symbols_newConstant_13 : decode b_Symbols_newConstant 13 = .ok (.invokevirtual 32, 3) := by decide +kernel
theorem d_Symbols_newConstant_16 : decode b_Symbols_newConstant 16 = .ok (.goto 4, 3) := by decide +kernel
theorem d_Symbols_newConstant_19 : decode b_Symbols_newConstant 19 = .ok (.iconst (-1), 1) := by decide +kernel
theorem d_Symbols_newConstant_20 : decode b_Symbols_newConstant 20 = .ok (.ireturn, 1) := by decide +kernel
abbrev b_Symbols_newVariable : ByteArray := prog_5_method_11_code
def y_Symbols_newVariable : MethodName := ⟨"SyntaxTrees$Symbols", "newVariable", "(I)I"⟩
def w_Symbols_newVariable : List Cond := .code y_Symbols_newVariable b_Symbols_newVariable 2 (some .int) :: TBL
theorem hd_Symbols_newVariable : y_Symbols_newVariable.cls = "SyntaxTrees$Symbols" ∧ y_Symbols_newVariable.cls ≠ "java/lang/invoke/MethodHandle" ∧ y_Symbols_newVariable.cls ≠ "java/lang/invoke/VarHandle" ∧ (parseMethodDescriptor y_Symbols_newVariable.desc).map (fun d => d.parameters.length) = some 1 := by decide +kernel
theorem d_Symbols_newVariable_0 : decode b_Symbols_newVariable 0 = .ok (.aload_n 0, 1) := by decide +kernel
theorem d_Symbols_newVariable_1 : decode b_Symbols_newVariable 1 = .ok (.getfield 21, 3) := by decide +kernel
theorem d_Symbols_newVariable_4 : decode b_Symbols_newVariable 4 = .ok (.sipush 1000, 3) := by decide +kernel
theorem d_Symbols_newVariable_7 : decode b_Symbols_newVariable 7 = .ok (.if_icmp .ge 11, 3) := by decide +kernel
theorem d_Symbols_newVariable_10 : decode b_Symbols_newVariable 10 = .ok (.aload_n 0, 1) := by decide +kernel
theorem d_Symbols_newVariable_11 : decode b_Symbols_newVariable 11 = .ok (.iload_n 1, 1) := by decide +kernel
theorem d_Symbols_newVariable_12 : decode b_Symbols_newVariable 12 = .ok (.invokevirtual 36, 3) := by decide +kernel
theorem d_Symbols_newVariable_15 : decode b_Symbols_newVariable 15 = .ok (.ifCond .ne 5, 3) := by decide +kernel
theorem d_Symbols_newVariable_18 : decode b_Symbols_newVariable 18 = .ok (.iconst (-1), 1) := by decide +kernel
theorem d_Symbols_newVariable_19 : decode b_Symbols_newVariable 19 = .ok (.ireturn, 1) := by decide +kernel
theorem d_Symbols_newVariable_20 : decode b_Symbols_newVariable 20 = .ok (.aload_n 0, 1) := by decide +kernel
theorem d_Symbols_newVariable_21 : decode b_Symbols_newVariable 21 = .ok (.iload_n 1, 1) := by decide +kernel
theorem d_Symbols_newVariable_22 : decode b_Symbols_newVariable 22 = .ok (.aload_n 0, 1) := by decide +kernel
theorem d_Symbols_newVariable_23 : decode b_Symbols_newVariable 23 = .ok (.iload_n 1, 1) := by decide +kernel
theorem d_Symbols_newVariable_24 : decode b_Symbols_newVariable 24 = .ok (.invokevirtual 39, 3) := by decide +kernel
theorem d_Symbols_newVariable_27 : decode b_Symbols_newVariable 27 = .ok (.invokevirtual 32, 3) := by decide +kernel
theorem d_Symbols_newVariable_30 : decode b_Symbols_newVariable 30 = .ok (.ireturn, 1) := by decide +kernel
