abbrev b_Ref_init : ByteArray := prog_8_method_1_code
def y_Ref_init : MethodName := ⟨"SyntaxTreesModel", "<init>", "()V"⟩
def w_Ref_init : List Cond := .code y_Ref_init b_Ref_init 2 none :: TBL
theorem hd_Ref_init : y_Ref_init.cls = "SyntaxTreesModel" ∧ y_Ref_init.cls ≠ "java/lang/invoke/MethodHandle" ∧ y_Ref_init.cls ≠ "java/lang/invoke/VarHandle" ∧ (parseMethodDescriptor y_Ref_init.desc).map (fun d => d.parameters.length) = some 0 := by decide +kernel
theorem d_Ref_init_0 : decode b_Ref_init 0 = .ok (.aload_n 0, 1) := by decide +kernel
theorem d_Ref_init_1 : decode b_Ref_init 1 = .ok (.invokespecial 1, 3) := by decide +kernel
theorem d_Ref_init_4 : decode b_Ref_init 4 = .ok (.aload_n 0, 1) := by decide +kernel
theorem d_Ref_init_5 : decode b_Ref_init 5 = .ok (.sipush 1000, 3) := by decide +kernel
theorem d_Ref_init_8 : decode b_Ref_init 8 = .ok (.newarray .int, 2) := by decide +kernel
theorem d_Ref_init_10 : decode b_Ref_init 10 = .ok (.putfield 7, 3) := by decide +kernel
theorem d_Ref_init_13 : decode b_Ref_init 13 = .ok (.aload_n 0, 1) := by decide +kernel
theorem d_Ref_init_14 : decode b_Ref_init 14 = .ok (.sipush 1000, 3) := by decide +kernel
theorem d_Ref_init_17 : decode b_Ref_init 17 = .ok (.newarray .int, 2) := by decide +kernel
theorem d_Ref_init_19 : decode b_Ref_init 19 = .ok (.putfield 13, 3) := by decide +kernel
theorem d_Ref_init_22 : decode b_Ref_init 22 = .ok (.aload_n 0, 1) := by decide +kernel
theorem d_Ref_init_23 : decode b_Ref_init 23 = .ok (.sipush 1500, 3) := by decide +kernel
theorem d_Ref_init_26 : decode b_Ref_init 26 = .ok (.newarray .int, 2) := by decide +kernel
theorem d_Ref_init_28 : decode b_Ref_init 28 = .ok (.putfield 16, 3) := by decide +kernel
theorem d_Ref_init_31 : decode b_Ref_init 31 = .ok (.aload_n 0, 1) := by decide +kernel
theorem d_Ref_init_32 : decode b_Ref_init 32 = .ok (.sipush 1501, 3) := by decide +kernel
theorem d_Ref_init_35 : decode b_Ref_init 35 = .ok (.newarray .int, 2) := by decide +kernel
theorem d_Ref_init_37 : decode b_Ref_init 37 = .ok (.putfield 19, 3) := by decide +kernel
theorem d_Ref_init_40 : decode b_Ref_init 40 = .ok (.aload_n 0, 1) := by decide +kernel
theorem d_Ref_init_41 : decode b_Ref_init 41 = .ok (.sipush 30000, 3) := by decide +kernel
theorem d_Ref_init_44 : decode b_Ref_init 44 = .ok (.newarray .int, 2) := by decide +kernel
theorem d_Ref_init_46 : decode b_Ref_init 46 = .ok (.putfield 22, 3) := by decide +kernel
theorem d_Ref_init_49 : decode b_Ref_init 49 = .ok (.aload_n 0, 1) := by decide +kernel
theorem d_Ref_init_50 : decode b_Ref_init 50 = .ok (.bipush 59, 2) := by decide +kernel
theorem d_Ref_init_52 : decode b_Ref_init 52 = .ok (.newarray .int, 2) := by decide +kernel
theorem d_Ref_init_54 : decode b_Ref_init 54 = .ok (.putfield 25, 3) := by decide +kernel
theorem d_Ref_init_57 : decode b_Ref_init 57 = .ok (.aload_n 0, 1) := by decide +kernel
theorem d_Ref_init_58 : decode b_Ref_init 58 = .ok (.ldc 28, 2) := by decide +kernel
theorem d_Ref_init_60 : decode b_Ref_init 60 = .ok (.newarray .byte, 2) := by decide +kernel
theorem d_Ref_init_62 : decode b_Ref_init 62 = .ok (.putfield 29, 3) := by decide +kernel
theorem d_Ref_init_65 : decode b_Ref_init 65 = .ok (.aload_n 0, 1) := by decide +kernel
theorem d_Ref_init_66 : decode b_Ref_init 66 = .ok (.ldc 33, 2) := by decide +kernel
theorem d_Ref_init_68 : decode b_Ref_init 68 = .ok (.newarray .byte, 2) := by decide +kernel
theorem d_Ref_init_70 : decode b_Ref_init 70 = .ok (.putfield 34, 3) := by decide +kernel
theorem d_Ref_init_73 : decode b_Ref_init 73 = .ok (.aload_n 0, 1) := by decide +kernel
theorem d_Ref_init_74 : decode b_Ref_init 74 = .ok (.bipush 100, 2) := by decide +kernel
theorem d_Ref_init_76 : decode b_Ref_init 76 = .ok (.newarray .int, 2) := by decide +kernel
theorem d_Ref_init_78 : decode b_Ref_init 78 = .ok (.putfield 37, 3) := by decide +kernel
theorem d_Ref_init_81 : decode b_Ref_init 81 = .ok (.aload_n 0, 1) := by decide +kernel
theorem d_Ref_init_82 : decode b_Ref_init 82 = .ok (.sipush 12000, 3) := by decide +kernel
theorem d_Ref_init_85 : decode b_Ref_init 85 = .ok (.newarray .int, 2) := by decide +kernel
theorem d_Ref_init_87 : decode b_Ref_init 87 = .ok (.putfield 40, 3) := by decide +kernel
theorem d_Ref_init_90 : decode b_Ref_init 90 = .ok (.aload_n 0, 1) := by decide +kernel
theorem d_Ref_init_91 : decode b_Ref_init 91 = .ok (.sipush 12000, 3) := by decide +kernel
theorem d_Ref_init_94 : decode b_Ref_init 94 = .ok (.newarray .int, 2) := by decide +kernel
theorem d_Ref_init_96 : decode b_Ref_init 96 = .ok (.putfield 43, 3) := by decide +kernel
theorem d_Ref_init_99 : decode b_Ref_init 99 = .ok (.aload_n 0, 1) := by decide +kernel
theorem d_Ref_init_100 : decode b_Ref_init 100 = .ok (.sipush 12000, 3) := by decide +kernel
theorem d_Ref_init_103 : decode b_Ref_init 103 = .ok (.newarray .int, 2) := by decide +kernel
theorem d_Ref_init_105 : decode b_Ref_init 105 = .ok (.putfield 46, 3) := by decide +kernel
theorem d_Ref_init_108 : decode b_Ref_init 108 = .ok (.aload_n 0, 1) := by decide +kernel
theorem d_Ref_init_109 : decode b_Ref_init 109 = .ok (.sipush 12000, 3) := by decide +kernel
theorem d_Ref_init_112 : decode b_Ref_init 112 = .ok (.newarray .int, 2) := by decide +kernel
theorem d_Ref_init_114 : decode b_Ref_init 114 = .ok (.putfield 49, 3) := by decide +kernel
theorem d_Ref_init_117 : decode b_Ref_init 117 = .ok (.aload_n 0, 1) := by decide +kernel
theorem d_Ref_init_118 : decode b_Ref_init 118 = .ok (.sipush 12000, 3) := by decide +kernel
theorem d_Ref_init_121 : decode b_Ref_init 121 = .ok (.newarray .int, 2) := by decide +kernel
theorem d_Ref_init_123 : decode b_Ref_init 123 = .ok (.putfield 52, 3) := by decide +kernel
theorem d_Ref_init_126 : decode b_Ref_init 126 = .ok (.aload_n 0, 1) := by decide +kernel
theorem d_Ref_init_127 : decode b_Ref_init 127 = .ok (.sipush 12000, 3) := by decide +kernel
theorem d_Ref_init_130 : decode b_Ref_init 130 = .ok (.newarray .int, 2) := by decide +kernel
theorem d_Ref_init_132 : decode b_Ref_init 132 = .ok (.putfield 55, 3) := by decide +kernel
theorem d_Ref_init_135 : decode b_Ref_init 135 = .ok (.aload_n 0, 1) := by decide +kernel
theorem d_Ref_init_136 : decode b_Ref_init 136 = .ok (.sipush 12000, 3) := by decide +kernel
theorem d_Ref_init_139 : decode b_Ref_init 139 = .ok (.newarray .int, 2) := by decide +kernel
theorem d_Ref_init_141 : decode b_Ref_init 141 = .ok (.putfield 58, 3) := by decide +kernel
theorem d_Ref_init_144 : decode b_Ref_init 144 = .ok (.aload_n 0, 1) := by decide +kernel
theorem d_Ref_init_145 : decode b_Ref_init 145 = .ok (.sipush 12000, 3) := by decide +kernel
theorem d_Ref_init_148 : decode b_Ref_init 148 = .ok (.newarray .int, 2) := by decide +kernel
theorem d_Ref_init_150 : decode b_Ref_init 150 = .ok (.putfield 61, 3) := by decide +kernel
theorem d_Ref_init_153 : decode b_Ref_init 153 = .ok (.aload_n 0, 1) := by decide +kernel
theorem d_Ref_init_154 : decode b_Ref_init 154 = .ok (.sipush 12000, 3) := by decide +kernel
theorem d_Ref_init_157 : decode b_Ref_init 157 = .ok (.newarray .int, 2) := by decide +kernel
theorem d_Ref_init_159 : decode b_Ref_init 159 = .ok (.putfield 64, 3) := by decide +kernel
theorem d_Ref_init_162 : decode b_Ref_init 162 = .ok (.aload_n 0, 1) := by decide +kernel
theorem d_Ref_init_163 : decode b_Ref_init 163 = .ok (.sipush 12000, 3) := by decide +kernel
theorem d_Ref_init_166 : decode b_Ref_init 166 = .ok (.newarray .int, 2) := by decide +kernel
theorem d_Ref_init_168 : decode b_Ref_init 168 = .ok (.putfield 67, 3) := by decide +kernel
theorem d_Ref_init_171 : decode b_Ref_init 171 = .ok (.iconst 0, 1) := by decide +kernel
theorem d_Ref_init_172 : decode b_Ref_init 172 = .ok (.istore_n 1, 1) := by decide +kernel
theorem d_Ref_init_173 : decode b_Ref_init 173 = .ok (.iload_n 1, 1) := by decide +kernel
theorem d_Ref_init_174 : decode b_Ref_init 174 = .ok (.sipush 1000, 3) := by decide +kernel
theorem d_Ref_init_177 : decode b_Ref_init 177 = .ok (.if_icmp .ge 16, 3) := by decide +kernel
theorem d_Ref_init_180 : decode b_Ref_init 180 = .ok (.aload_n 0, 1) := by decide +kernel
theorem d_Ref_init_181 : decode b_Ref_init 181 = .ok (.getfield 13, 3) := by decide +kernel
theorem d_Ref_init_184 : decode b_Ref_init 184 = .ok (.iload_n 1, 1) := by decide +kernel
theorem d_Ref_init_185 : decode b_Ref_init 185 = .ok (.iconst (-1), 1) := by decide +kernel
theorem d_Ref_init_186 : decode b_Ref_init 186 = .ok (.iastore, 1) := by decide +kernel
theorem d_Ref_init_187 : decode b_Ref_init 187 = .ok (.iinc 1 1, 3) := by decide +kernel
theorem d_Ref_init_190 : decode b_Ref_init 190 = .ok (.goto (-17), 3) := by decide +kernel
theorem d_Ref_init_193 : decode b_Ref_init 193 = .ok (.return_, 1) := by decide +kernel
abbrev b_Ref_isSymbol : ByteArray := prog_8_method_2_code
def y_Ref_isSymbol : MethodName := ⟨"SyntaxTreesModel", "isSymbol", "(I)Z"⟩
def w_Ref_isSymbol : List Cond := .code y_Ref_isSymbol b_Ref_isSymbol 2 (some .boolean) :: TBL
theorem hd_Ref_isSymbol : y_Ref_isSymbol.cls = "SyntaxTreesModel" ∧ y_Ref_isSymbol.cls ≠ "java/lang/invoke/MethodHandle" ∧ y_Ref_isSymbol.cls ≠ "java/lang/invoke/VarHandle" ∧ (parseMethodDescriptor y_Ref_isSymbol.desc).map (fun d => d.parameters.length) = some 1 := by decide +kernel
theorem d_Ref_isSymbol_0 : decode b_Ref_isSymbol 0 = .ok (.iload_n 1, 1) := by decide +kernel
theorem d_Ref_isSymbol_1 : decode b_Ref_isSymbol 1 = .ok (.ifCond .lt 15, 3) := by decide +kernel
theorem d_Ref_isSymbol_4 : decode b_Ref_isSymbol 4 = .ok (.iload_n 1, 1) := by decide +kernel
theorem d_Ref_isSymbol_5 : decode b_Ref_isSymbol 5 = .ok (.aload_n 0, 1) := by decide +kernel
theorem d_Ref_isSymbol_6 : decode b_Ref_isSymbol 6 = .ok (.getfield 70, 3) := by decide +kernel
theorem d_Ref_isSymbol_9 : decode b_Ref_isSymbol 9 = .ok (.if_icmp .ge 7, 3) := by decide +kernel
theorem d_Ref_isSymbol_12 : decode b_Ref_isSymbol 12 = .ok (.iconst 1, 1) := by decide +kernel
theorem d_Ref_isSymbol_13 : decode b_Ref_isSymbol 13 = .ok (.goto 4, 3) := by decide +kernel
theorem d_Ref_isSymbol_16 : decode b_Ref_isSymbol 16 = .ok (.iconst 0, 1) := by decide +kernel
theorem d_Ref_isSymbol_17 : decode b_Ref_isSymbol 17 = .ok (.ireturn, 1) := by decide +kernel
abbrev b_Ref_isConstant : ByteArray := prog_8_method_3_code
def y_Ref_isConstant : MethodName := ⟨"SyntaxTreesModel", "isConstant", "(I)Z"⟩
def w_Ref_isConstant : List Cond := .code y_Ref_isConstant b_Ref_isConstant 2 (some .boolean) :: TBL
theorem hd_Ref_isConstant : y_Ref_isConstant.cls = "SyntaxTreesModel" ∧ y_Ref_isConstant.cls ≠ "java/lang/invoke/MethodHandle" ∧ y_Ref_isConstant.cls ≠ "java/lang/invoke/VarHandle" ∧ (parseMethodDescriptor y_Ref_isConstant.desc).map (fun d => d.parameters.length) = some 1 := by decide +kernel
theorem d_Ref_isConstant_0 : decode b_Ref_isConstant 0 = .ok (.aload_n 0, 1) := by decide +kernel
theorem d_Ref_isConstant_1 : decode b_Ref_isConstant 1 = .ok (.iload_n 1, 1) := by decide +kernel
theorem d_Ref_isConstant_2 : decode b_Ref_isConstant 2 = .ok (.invokevirtual 74, 3) := by decide +kernel
theorem d_Ref_isConstant_5 : decode b_Ref_isConstant 5 = .ok (.ifCond .eq 17, 3) := by decide +kernel
theorem d_Ref_isConstant_8 : decode b_Ref_isConstant 8 = .ok (.aload_n 0, 1) := by decide +kernel
theorem d_Ref_isConstant_9 : decode b_Ref_isConstant 9 = .ok (.getfield 7, 3) := by decide +kernel
theorem d_Ref_isConstant_12 : decode b_Ref_isConstant 12 = .ok (.iload_n 1, 1) := by decide +kernel
theorem d_Ref_isConstant_13 : decode b_Ref_isConstant 13 = .ok (.iaload, 1) := by decide +kernel
theorem d_Ref_isConstant_14 : decode b_Ref_isConstant 14 = .ok (.iconst (-1), 1) := by decide +kernel
theorem d_Ref_isConstant_15 : decode b_Ref_isConstant 15 = .ok (.if_icmp .ne 7, 3) := by decide +kernel
theorem d_Ref_isConstant_18 : decode b_Ref_isConstant 18 = .ok (.iconst 1, 1) := by decide +kernel
theorem d_Ref_isConstant_19 : decode b_Ref_isConstant 19 = .ok (.goto 4, 3) := by decide +kernel
theorem d_Ref_isConstant_22 : decode b_Ref_isConstant 22 = .ok (.iconst 0, 1) := by decide +kernel
theorem d_Ref_isConstant_23 : decode b_Ref_isConstant 23 = .ok (.ireturn, 1) := by decide +kernel
abbrev b_Ref_canBeSort : ByteArray := prog_8_method_4_code
def y_Ref_canBeSort : MethodName := ⟨"SyntaxTreesModel", "canBeSort", "(I)Z"⟩
def w_Ref_canBeSort : List Cond := .code y_Ref_canBeSort b_Ref_canBeSort 2 (some .boolean) :: TBL
theorem hd_Ref_canBeSort : y_Ref_canBeSort.cls = "SyntaxTreesModel" ∧ y_Ref_canBeSort.cls ≠ "java/lang/invoke/MethodHandle" ∧ y_Ref_canBeSort.cls ≠ "java/lang/invoke/VarHandle" ∧ (parseMethodDescriptor y_Ref_canBeSort.desc).map (fun d => d.parameters.length) = some 1 := by decide +kernel
theorem d_Ref_canBeSort_0 : decode b_Ref_canBeSort 0 = .ok (.aload_n 0, 1) := by decide +kernel
theorem d_Ref_canBeSort_1 : decode b_Ref_canBeSort 1 = .ok (.iload_n 1, 1) := by decide +kernel
theorem d_Ref_canBeSort_2 : decode b_Ref_canBeSort 2 = .ok (.invokevirtual 78, 3) := by decide +kernel
theorem d_Ref_canBeSort_5 : decode b_Ref_canBeSort 5 = .ok (.ifCond .eq 26, 3) := by decide +kernel
theorem d_Ref_canBeSort_8 : decode b_Ref_canBeSort 8 = .ok (.aload_n 0, 1) := by decide +kernel
theorem d_Ref_canBeSort_9 : decode b_Ref_canBeSort 9 = .ok (.getfield 13, 3) := by decide +kernel
theorem d_Ref_canBeSort_12 : decode b_Ref_canBeSort 12 = .ok (.iload_n 1, 1) := by decide +kernel
theorem d_Ref_canBeSort_13 : decode b_Ref_canBeSort 13 = .ok (.iaload, 1) := by decide +kernel
theorem d_Ref_canBeSort_14 : decode b_Ref_canBeSort 14 = .ok (.iconst (-1), 1) := by decide +kernel
theorem d_Ref_canBeSort_15 : decode b_Ref_canBeSort 15 = .ok (.if_icmp .ne 12, 3) := by decide +kernel
theorem d_Ref_canBeSort_18 : decode b_Ref_canBeSort 18 = .ok (.aload_n 0, 1) := by decide +kernel
theorem d_Ref_canBeSort_19 : decode b_Ref_canBeSort 19 = .ok (.getfield 81, 3) := by decide +kernel
theorem d_Ref_canBeSort_22 : decode b_Ref_canBeSort 22 = .ok (.bipush 100, 2) := by decide +kernel
theorem d_Ref_canBeSort_24 : decode b_Ref_canBeSort 24 = .ok (.if_icmp .ge 7, 3) := by decide +kernel
theorem d_Ref_canBeSort_27 : decode b_Ref_canBeSort 27 = .ok (.iconst 1, 1) := by decide +kernel
theorem d_Ref_canBeSort_28 : decode b_Ref_canBeSort 28 = .ok (.goto 4, 3) := by decide +kernel
theorem d_Ref_canBeSort_31 : decode b_Ref_canBeSort 31 = .ok (.iconst 0, 1) := by decide +kernel
theorem d_Ref_canBeSort_32 : decode b_Ref_canBeSort 32 = .ok (.ireturn, 1) := by decide +kernel
abbrev b_Ref_becomesSort : ByteArray := prog_8_method_5_code
def y_Ref_becomesSort : MethodName := ⟨"SyntaxTreesModel", "becomesSort", "(I)V"⟩
def w_Ref_becomesSort : List Cond := .code y_Ref_becomesSort b_Ref_becomesSort 2 none :: TBL
theorem hd_Ref_becomesSort : y_Ref_becomesSort.cls = "SyntaxTreesModel" ∧ y_Ref_becomesSort.cls ≠ "java/lang/invoke/MethodHandle" ∧ y_Ref_becomesSort.cls ≠ "java/lang/invoke/VarHandle" ∧ (parseMethodDescriptor y_Ref_becomesSort.desc).map (fun d => d.parameters.length) = some 1 := by decide +kernel
theorem d_Ref_becomesSort_0 : decode b_Ref_becomesSort 0 = .ok (.aload_n 0, 1) := by decide +kernel
theorem d_Ref_becomesSort_1 : decode b_Ref_becomesSort 1 = .ok (.getfield 13, 3) := by decide +kernel
theorem d_Ref_becomesSort_4 : decode b_Ref_becomesSort 4 = .ok (.iload_n 1, 1) := by decide +kernel
theorem d_Ref_becomesSort_5 : decode b_Ref_becomesSort 5 = .ok (.iaload, 1) := by decide +kernel
theorem d_Ref_becomesSort_6 : decode b_Ref_becomesSort 6 = .ok (.iconst (-1), 1) := by decide +kernel
theorem d_Ref_becomesSort_7 : decode b_Ref_becomesSort 7 = .ok (.if_icmp .ne 23, 3) := by decide +kernel
theorem d_Ref_becomesSort_10 : decode b_Ref_becomesSort 10 = .ok (.aload_n 0, 1) := by decide +kernel
theorem d_Ref_becomesSort_11 : decode b_Ref_becomesSort 11 = .ok (.getfield 13, 3) := by decide +kernel
theorem d_Ref_becomesSort_14 : decode b_Ref_becomesSort 14 = .ok (.iload_n 1, 1) := by decide +kernel
theorem d_Ref_becomesSort_15 : decode b_Ref_becomesSort 15 = .ok (.aload_n 0, 1) := by decide +kernel
theorem d_Ref_becomesSort_16 : decode b_Ref_becomesSort 16 = .ok (.getfield 81, 3) := by decide +kernel
theorem d_Ref_becomesSort_19 : decode b_Ref_becomesSort 19 = .ok (.iastore, 1) := by decide +kernel
theorem d_Ref_becomesSort_20 : decode b_Ref_becomesSort 20 = .ok (.aload_n 0, 1) := by decide +kernel
theorem d_Ref_becomesSort_21 : decode b_Ref_becomesSort 21 = .ok (.dup, 1) := by decide +kernel
theorem d_Ref_becomesSort_22 : decode b_Ref_becomesSort 22 = .ok (.getfield 81, 3) := by decide +kernel
theorem d_Ref_becomesSort_25 : decode b_Ref_becomesSort 25 = .ok (.iconst 1, 1) := by decide +kernel
theorem d_Ref_becomesSort_26 : decode b_Ref_becomesSort 26 = .ok (.iadd, 1) := by decide +kernel
theorem d_Ref_becomesSort_27 : decode b_Ref_becomesSort 27 = .ok (.putfield 81, 3) := by decide +kernel
theorem d_Ref_becomesSort_30 : decode b_Ref_becomesSort 30 = .ok (.return_, 1) := by decide +kernel
abbrev b_Ref_symbol : ByteArray := prog_8_method_6_code
def y_Ref_symbol : MethodName := ⟨"SyntaxTreesModel", "symbol", "(I)I"⟩
def w_Ref_symbol : List Cond := .code y_Ref_symbol b_Ref_symbol 2 (some .int) :: TBL
theorem hd_Ref_symbol : y_Ref_symbol.cls = "SyntaxTreesModel" ∧ y_Ref_symbol.cls ≠ "java/lang/invoke/MethodHandle" ∧ y_Ref_symbol.cls ≠ "java/lang/invoke/VarHandle" ∧ (parseMethodDescriptor y_Ref_symbol.desc).map (fun d => d.parameters.length) = some 1 := by decide +kernel
theorem d_Ref_symbol_0 : decode b_Ref_symbol 0 = .ok (.aload_n 0, 1) := by decide +kernel
theorem d_Ref_symbol_1 : decode b_Ref_symbol 1 = .ok (.getfield 70, 3) := by decide +kernel
theorem d_Ref_symbol_4 : decode b_Ref_symbol 4 = .ok (.sipush 1000, 3) := by decide +kernel
theorem d_Ref_symbol_7 : decode b_Ref_symbol 7 = .ok (.if_icmp .eq 16, 3) := by decide +kernel
theorem d_Ref_symbol_10 : decode b_Ref_symbol 10 = .ok (.iload_n 1, 1) := by decide +kernel
theorem d_Ref_symbol_11 : decode b_Ref_symbol 11 = .ok (.iconst (-1), 1) := by decide +kernel
theorem d_Ref_symbol_12 : decode b_Ref_symbol 12 = .ok (.if_icmp .eq 13, 3) := by decide +kernel
theorem d_Ref_symbol_15 : decode b_Ref_symbol 15 = .ok (.aload_n 0, 1) := by decide +kernel
theorem d_Ref_symbol_16 : decode b_Ref_symbol 16 = .ok (.iload_n 1, 1) := by decide +kernel
theorem d_Ref_symbol_17 : decode b_Ref_symbol 17 = .ok (.invokevirtual 84, 3) := by decide +kernel
theorem d_Ref_symbol_20 : decode b_Ref_symbol 20 = .ok (.ifCond .ne 5, 3) := by decide +kernel
theorem d_Ref_symbol_23 : decode b_Ref_symbol 23 = .ok (.iconst (-1), 1) := by decide +kernel
theorem d_Ref_symbol_24 : decode b_Ref_symbol 24 = .ok (.ireturn, 1) := by decide +kernel
theorem d_Ref_symbol_25 : decode b_Ref_symbol 25 = .ok (.aload_n 0, 1) := by decide +kernel
theorem d_Ref_symbol_26 : decode b_Ref_symbol 26 = .ok (.iconst 0, 1) := by decide +kernel
theorem d_Ref_symbol_27 : decode b_Ref_symbol 27 = .ok (.putfield 87, 3) := by decide +kernel
theorem d_Ref_symbol_30 : decode b_Ref_symbol 30 = .ok (.iload_n 1, 1) := by decide +kernel
theorem d_Ref_symbol_31 : decode b_Ref_symbol 31 = .ok (.iconst (-1), 1) := by decide +kernel
theorem d_Ref_symbol_32 : decode b_Ref_symbol 32 = .ok (.if_icmp .eq 8, 3) := by decide +kernel
theorem d_Ref_symbol_35 : decode b_Ref_symbol 35 = .ok (.aload_n 0, 1) := by decide +kernel
theorem d_Ref_symbol_36 : decode b_Ref_symbol 36 = .ok (.iload_n 1, 1) := by decide +kernel
theorem d_Ref_symbol_37 : decode b_Ref_symbol 37 = .ok (.invokevirtual 91, 3) := by decide +kernel
theorem d_Ref_symbol_40 : decode b_Ref_symbol 40 = .ok (.aload_n 0, 1) := by decide +kernel
theorem d_Ref_symbol_41 : decode b_Ref_symbol 41 = .ok (.getfield 7, 3) := by decide +kernel
theorem d_Ref_symbol_44 : decode b_Ref_symbol 44 = .ok (.aload_n 0, 1) := by decide +kernel
theorem d_Ref_symbol_45 : decode b_Ref_symbol 45 = .ok (.getfield 70, 3) := by decide +kernel
theorem d_Ref_symbol_48 : decode b_Ref_symbol 48 = .ok (.iload_n 1, 1) := by decide +kernel
theorem d_Ref_symbol_49 : decode b_Ref_symbol 49 = .ok (.iastore, 1) := by decide +kernel
theorem d_Ref_symbol_50 : decode b_Ref_symbol 50 = .ok (.aload_n 0, 1) := by decide +kernel
theorem d_Ref_symbol_51 : decode b_Ref_symbol 51 = .ok (.dup, 1) := by decide +kernel
theorem d_Ref_symbol_52 : decode b_Ref_symbol 52 = .ok (.getfield 70, 3) := by decide +kernel
theorem d_Ref_symbol_55 : decode b_Ref_symbol 55 = .ok (.iconst 1, 1) := by decide +kernel
theorem d_Ref_symbol_56 : decode b_Ref_symbol 56 = .ok (.iadd, 1) := by decide +kernel
theorem d_Ref_symbol_57 : decode b_Ref_symbol 57 = .ok (.putfield 70, 3) := by decide +kernel
theorem d_Ref_symbol_60 : decode b_Ref_symbol 60 = .ok (.aload_n 0, 1) := by decide +kernel
theorem d_Ref_symbol_61 : decode b_Ref_symbol 61 = .ok (.getfield 70, 3) := by decide +kernel
theorem d_Ref_symbol_64 : decode b_Ref_symbol 64 = .ok (.iconst 1, 1) := by decide +kernel
theorem d_Ref_symbol_65 : decode b_Ref_symbol 65 = .ok (.isub, 1) := by decide +kernel
theorem d_Ref_symbol_66 : decode b_Ref_symbol 66 = .ok (.ireturn, 1) := by decide +kernel
abbrev b_Ref_begin : ByteArray := prog_8_method_7_code
def y_Ref_begin : MethodName := ⟨"SyntaxTreesModel", "begin", "(I)I"⟩
def w_Ref_begin : List Cond := .code y_Ref_begin b_Ref_begin 2 (some .int) :: TBL
theorem hd_Ref_begin : y_Ref_begin.cls = "SyntaxTreesModel" ∧ y_Ref_begin.cls ≠ "java/lang/invoke/MethodHandle" ∧ y_Ref_begin.cls ≠ "java/lang/invoke/VarHandle" ∧ (parseMethodDescriptor y_Ref_begin.desc).map (fun d => d.parameters.length) = some 1 := by decide +kernel
theorem d_Ref_begin_0 : decode b_Ref_begin 0 = .ok (.aload_n 0, 1) := by decide +kernel
theorem d_Ref_begin_1 : decode b_Ref_begin 1 = .ok (.getfield 95, 3) := by decide +kernel
theorem d_Ref_begin_4 : decode b_Ref_begin 4 = .ok (.ifCond .ne 21, 3) := by decide +kernel
theorem d_Ref_begin_7 : decode b_Ref_begin 7 = .ok (.aload_n 0, 1) := by decide +kernel
theorem d_Ref_begin_8 : decode b_Ref_begin 8 = .ok (.getfield 98, 3) := by decide +kernel
theorem d_Ref_begin_11 : decode b_Ref_begin 11 = .ok (.sipush 1500, 3) := by decide +kernel
theorem d_Ref_begin_14 : decode b_Ref_begin 14 = .ok (.if_icmp .eq 11, 3) := by decide +kernel
theorem d_Ref_begin_17 : decode b_Ref_begin 17 = .ok (.aload_n 0, 1) := by decide +kernel
theorem d_Ref_begin_18 : decode b_Ref_begin 18 = .ok (.iload_n 1, 1) := by decide +kernel
theorem d_Ref_begin_19 : decode b_Ref_begin 19 = .ok (.invokevirtual 84, 3) := by decide +kernel
theorem d_Ref_begin_22 : decode b_Ref_begin 22 = .ok (.ifCond .ne 5, 3) := by decide +kernel
theorem d_Ref_begin_25 : decode b_Ref_begin 25 = .ok (.iconst (-1), 1) := by decide +kernel
theorem d_Ref_begin_26 : decode b_Ref_begin 26 = .ok (.ireturn, 1) := by decide +kernel
theorem d_Ref_begin_27 : decode b_Ref_begin 27 = .ok (.aload_n 0, 1) := by decide +kernel
theorem d_Ref_begin_28 : decode b_Ref_begin 28 = .ok (.iload_n 1, 1) := by decide +kernel
theorem d_Ref_begin_29 : decode b_Ref_begin 29 = .ok (.invokevirtual 91, 3) := by decide +kernel
theorem d_Ref_begin_32 : decode b_Ref_begin 32 = .ok (.aload_n 0, 1) := by decide +kernel
theorem d_Ref_begin_33 : decode b_Ref_begin 33 = .ok (.iconst 0, 1) := by decide +kernel
theorem d_Ref_begin_34 : decode b_Ref_begin 34 = .ok (.putfield 87, 3) := by decide +kernel
theorem d_Ref_begin_37 : decode b_Ref_begin 37 = .ok (.aload_n 0, 1) := by decide +kernel
theorem d_Ref_begin_38 : decode b_Ref_begin 38 = .ok (.getfield 16, 3) := by decide +kernel
theorem d_Ref_begin_41 : decode b_Ref_begin 41 = .ok (.aload_n 0, 1) := by decide +kernel
theorem d_Ref_begin_42 : decode b_Ref_begin 42 = .ok (.getfield 98, 3) := by decide +kernel
theorem d_Ref_begin_45 : decode b_Ref_begin 45 = .ok (.iload_n 1, 1) := by decide +kernel
theorem d_Ref_begin_46 : decode b_Ref_begin 46 = .ok (.iastore, 1) := by decide +kernel
theorem d_Ref_begin_47 : decode b_Ref_begin 47 = .ok (.aload_n 0, 1) := by decide +kernel
theorem d_Ref_begin_48 : decode b_Ref_begin 48 = .ok (.getfield 19, 3) := by decide +kernel
theorem d_Ref_begin_51 : decode b_Ref_begin 51 = .ok (.aload_n 0, 1) := by decide +kernel
theorem d_Ref_begin_52 : decode b_Ref_begin 52 = .ok (.getfield 98, 3) := by decide +kernel
theorem d_Ref_begin_55 : decode b_Ref_begin 55 = .ok (.aload_n 0, 1) := by decide +kernel
theorem d_Ref_begin_56 : decode b_Ref_begin 56 = .ok (.getfield 101, 3) := by decide +kernel
theorem d_Ref_begin_59 : decode b_Ref_begin 59 = .ok (.iastore, 1) := by decide +kernel
theorem d_Ref_begin_60 : decode b_Ref_begin 60 = .ok (.aload_n 0, 1) := by decide +kernel
theorem d_Ref_begin_61 : decode b_Ref_begin 61 = .ok (.iconst 1, 1) := by decide +kernel
theorem d_Ref_begin_62 : decode b_Ref_begin 62 = .ok (.putfield 95, 3) := by decide +kernel
theorem d_Ref_begin_65 : decode b_Ref_begin 65 = .ok (.aload_n 0, 1) := by decide +kernel
theorem d_Ref_begin_66 : decode b_Ref_begin 66 = .ok (.getfield 98, 3) := by decide +kernel
theorem d_Ref_begin_69 : decode b_Ref_begin 69 = .ok (.ireturn, 1) := by decide +kernel
abbrev b_Ref_put : ByteArray := prog_8_method_8_code
def y_Ref_put : MethodName := ⟨"SyntaxTreesModel", "put", "(I)I"⟩
def w_Ref_put : List Cond := .code y_Ref_put b_Ref_put 3 (some .int) :: TBL
theorem hd_Ref_put : y_Ref_put.cls = "SyntaxTreesModel" ∧ y_Ref_put.cls ≠ "java/lang/invoke/MethodHandle" ∧ y_Ref_put.cls ≠ "java/lang/invoke/VarHandle" ∧ (parseMethodDescriptor y_Ref_put.desc).map (fun d => d.parameters.length) = some 1 := by decide +kernel
theorem d_Ref_put_0 : decode b_Ref_put 0 = .ok (.aload_n 0, 1) := by decide +kernel
theorem d_Ref_put_1 : decode b_Ref_put 1 = .ok (.getfield 95, 3) := by decide +kernel
theorem d_Ref_put_4 : decode b_Ref_put 4 = .ok (.ifCond .eq 41, 3) := by decide +kernel
theorem d_Ref_put_7 : decode b_Ref_put 7 = .ok (.aload_n 0, 1) := by decide +kernel
theorem d_Ref_put_8 : decode b_Ref_put 8 = .ok (.iload_n 1, 1) := by decide +kernel
theorem d_Ref_put_9 : decode b_Ref_put 9 = .ok (.invokevirtual 74, 3) := by decide +kernel
theorem d_Ref_put_12 : decode b_Ref_put 12 = .ok (.ifCond .eq 33, 3) := by decide +kernel
theorem d_Ref_put_15 : decode b_Ref_put 15 = .ok (.aload_n 0, 1) := by decide +kernel
theorem d_Ref_put_16 : decode b_Ref_put 16 = .ok (.getfield 101, 3) := by decide +kernel
theorem d_Ref_put_19 : decode b_Ref_put 19 = .ok (.sipush 30000, 3) := by decide +kernel
theorem d_Ref_put_22 : decode b_Ref_put 22 = .ok (.if_icmp .eq 23, 3) := by decide +kernel
theorem d_Ref_put_25 : decode b_Ref_put 25 = .ok (.aload_n 0, 1) := by decide +kernel
theorem d_Ref_put_26 : decode b_Ref_put 26 = .ok (.getfield 101, 3) := by decide +kernel
theorem d_Ref_put_29 : decode b_Ref_put 29 = .ok (.aload_n 0, 1) := by decide +kernel
theorem d_Ref_put_30 : decode b_Ref_put 30 = .ok (.getfield 19, 3) := by decide +kernel
theorem d_Ref_put_33 : decode b_Ref_put 33 = .ok (.aload_n 0, 1) := by decide +kernel
theorem d_Ref_put_34 : decode b_Ref_put 34 = .ok (.getfield 98, 3) := by decide +kernel
theorem d_Ref_put_37 : decode b_Ref_put 37 = .ok (.iaload, 1) := by decide +kernel
theorem d_Ref_put_38 : decode b_Ref_put 38 = .ok (.isub, 1) := by decide +kernel
theorem d_Ref_put_39 : decode b_Ref_put 39 = .ok (.sipush 299, 3) := by decide +kernel
theorem d_Ref_put_42 : decode b_Ref_put 42 = .ok (.if_icmp .ne 5, 3) := by decide +kernel
theorem d_Ref_put_45 : decode b_Ref_put 45 = .ok (.iconst (-1), 1) := by decide +kernel
theorem d_Ref_put_46 : decode b_Ref_put 46 = .ok (.ireturn, 1) := by decide +kernel
theorem d_Ref_put_47 : decode b_Ref_put 47 = .ok (.aload_n 0, 1) := by decide +kernel
theorem d_Ref_put_48 : decode b_Ref_put 48 = .ok (.getfield 19, 3) := by decide +kernel
theorem d_Ref_put_51 : decode b_Ref_put 51 = .ok (.aload_n 0, 1) := by decide +kernel
theorem d_Ref_put_52 : decode b_Ref_put 52 = .ok (.getfield 98, 3) := by decide +kernel
theorem d_Ref_put_55 : decode b_Ref_put 55 = .ok (.iaload, 1) := by decide +kernel
theorem d_Ref_put_56 : decode b_Ref_put 56 = .ok (.istore_n 2, 1) := by decide +kernel
theorem d_Ref_put_57 : decode b_Ref_put 57 = .ok (.iload_n 2, 1) := by decide +kernel
theorem d_Ref_put_58 : decode b_Ref_put 58 = .ok (.aload_n 0, 1) := by decide +kernel
theorem d_Ref_put_59 : decode b_Ref_put 59 = .ok (.getfield 101, 3) := by decide +kernel
theorem d_Ref_put_62 : decode b_Ref_put 62 = .ok (.if_icmp .ge 31, 3) := by decide +kernel
theorem d_Ref_put_65 : decode b_Ref_put 65 = .ok (.aload_n 0, 1) := by decide +kernel
theorem d_Ref_put_66 : decode b_Ref_put 66 = .ok (.getfield 22, 3) := by decide +kernel
theorem d_Ref_put_69 : decode b_Ref_put 69 = .ok (.iload_n 2, 1) := by decide +kernel
theorem d_Ref_put_70 : decode b_Ref_put 70 = .ok (.iaload, 1) := by decide +kernel
theorem d_Ref_put_71 : decode b_Ref_put 71 = .ok (.iload_n 1, 1) := by decide +kernel
theorem d_Ref_put_72 : decode b_Ref_put 72 = .ok (.if_icmp .ne 15, 3) := by decide +kernel
theorem d_Ref_put_75 : decode b_Ref_put 75 = .ok (.aload_n 0, 1) := by decide +kernel
theorem d_Ref_put_76 : decode b_Ref_put 76 = .ok (.getfield 7, 3) := by decide +kernel
theorem d_Ref_put_79 : decode b_Ref_put 79 = .ok (.iload_n 1, 1) := by decide +kernel
theorem d_Ref_put_80 : decode b_Ref_put 80 = .ok (.iaload, 1) := by decide +kernel
theorem d_Ref_put_81 : decode b_Ref_put 81 = .ok (.iconst (-1), 1) := by decide +kernel
theorem d_Ref_put_82 : decode b_Ref_put 82 = .ok (.if_icmp .eq 5, 3) := by decide +kernel
theorem d_Ref_put_85 : decode b_Ref_put 85 = .ok (.iconst (-1), 1) := by decide +kernel
theorem d_Ref_put_86 : decode b_Ref_put 86 = .ok (.ireturn, 1) := by decide +kernel
theorem d_Ref_put_87 : decode b_Ref_put 87 = .ok (.iinc 2 1, 3) := by decide +kernel
theorem d_Ref_put_90 : decode b_Ref_put 90 = .ok (.goto (-33), 3) := by decide +kernel
theorem d_Ref_put_93 : decode b_Ref_put 93 = .ok (.aload_n 0, 1) := by decide +kernel
theorem d_Ref_put_94 : decode b_Ref_put 94 = .ok (.getfield 22, 3) := by decide +kernel
theorem d_Ref_put_97 : decode b_Ref_put 97 = .ok (.aload_n 0, 1) := by decide +kernel
theorem d_Ref_put_98 : decode b_Ref_put 98 = .ok (.getfield 101, 3) := by decide +kernel
theorem d_Ref_put_101 : decode b_Ref_put 101 = .ok (.iload_n 1, 1) := by decide +kernel
theorem d_Ref_put_102 : decode b_Ref_put 102 = .ok (.iastore, 1) := by decide +kernel
theorem d_Ref_put_103 : decode b_Ref_put 103 = .ok (.aload_n 0, 1) := by decide +kernel
theorem d_Ref_put_104 : decode b_Ref_put 104 = .ok (.dup, 1) := by decide +kernel
theorem d_Ref_put_105 : decode b_Ref_put 105 = .ok (.getfield 101, 3) := by decide +kernel
theorem d_Ref_put_108 : decode b_Ref_put 108 = .ok (.iconst 1, 1) := by decide +kernel
theorem d_Ref_put_109 : decode b_Ref_put 109 = .ok (.iadd, 1) := by decide +kernel
theorem d_Ref_put_110 : decode b_Ref_put 110 = .ok (.putfield 101, 3) := by decide +kernel
theorem d_Ref_put_113 : decode b_Ref_put 113 = .ok (.aload_n 0, 1) := by decide +kernel
theorem d_Ref_put_114 : decode b_Ref_put 114 = .ok (.getfield 101, 3) := by decide +kernel
theorem d_Ref_put_117 : decode b_Ref_put 117 = .ok (.aload_n 0, 1) := by decide +kernel
theorem d_Ref_put_118 : decode b_Ref_put 118 = .ok (.getfield 19, 3) := by decide +kernel
theorem d_Ref_put_121 : decode b_Ref_put 121 = .ok (.aload_n 0, 1) := by decide +kernel
theorem d_Ref_put_122 : decode b_Ref_put 122 = .ok (.getfield 98, 3) := by decide +kernel
theorem d_Ref_put_125 : decode b_Ref_put 125 = .ok (.iaload, 1) := by decide +kernel
theorem d_Ref_put_126 : decode b_Ref_put 126 = .ok (.isub, 1) := by decide +kernel
theorem d_Ref_put_127 : decode b_Ref_put 127 = .ok (.ireturn, 1) := by decide +kernel
abbrev b_Ref_close : ByteArray := prog_8_method_9_code
def y_Ref_close : MethodName := ⟨"SyntaxTreesModel", "close", "()I"⟩
def w_Ref_close : List Cond := .code y_Ref_close b_Ref_close 1 (some .int) :: TBL
theorem hd_Ref_close : y_Ref_close.cls = "SyntaxTreesModel" ∧ y_Ref_close.cls ≠ "java/lang/invoke/MethodHandle" ∧ y_Ref_close.cls ≠ "java/lang/invoke/VarHandle" ∧ (parseMethodDescriptor y_Ref_close.desc).map (fun d => d.parameters.length) = some 0 := by decide +kernel
theorem d_Ref_close_0 : decode b_Ref_close 0 = .ok (.aload_n 0, 1) := by decide +kernel
theorem d_Ref_close_1 : decode b_Ref_close 1 = .ok (.getfield 95, 3) := by decide +kernel
theorem d_Ref_close_4 : decode b_Ref_close 4 = .ok (.ifCond .eq 19, 3) := by decide +kernel
theorem d_Ref_close_7 : decode b_Ref_close 7 = .ok (.aload_n 0, 1) := by decide +kernel
theorem d_Ref_close_8 : decode b_Ref_close 8 = .ok (.getfield 101, 3) := by decide +kernel
theorem d_Ref_close_11 : decode b_Ref_close 11 = .ok (.aload_n 0, 1) := by decide +kernel
theorem d_Ref_close_12 : decode b_Ref_close 12 = .ok (.getfield 19, 3) := by decide +kernel
theorem d_Ref_close_15 : decode b_Ref_close 15 = .ok (.aload_n 0, 1) := by decide +kernel
theorem d_Ref_close_16 : decode b_Ref_close 16 = .ok (.getfield 98, 3) := by decide +kernel
theorem d_Ref_close_19 : decode b_Ref_close 19 = .ok (.iaload, 1) := by decide +kernel
theorem d_Ref_close_20 : decode b_Ref_close 20 = .ok (.if_icmp .ne 5, 3) := by decide +kernel
theorem d_Ref_close_23 : decode b_Ref_close 23 = .ok (.iconst 0, 1) := by decide +kernel
theorem d_Ref_close_24 : decode b_Ref_close 24 = .ok (.ireturn, 1) := by decide +kernel
theorem d_Ref_close_25 : decode b_Ref_close 25 = .ok (.aload_n 0, 1) := by decide +kernel
theorem d_Ref_close_26 : decode b_Ref_close 26 = .ok (.iconst 0, 1) := by decide +kernel
theorem d_Ref_close_27 : decode b_Ref_close 27 = .ok (.putfield 95, 3) := by decide +kernel
theorem d_Ref_close_30 : decode b_Ref_close 30 = .ok (.aload_n 0, 1) := by decide +kernel
theorem d_Ref_close_31 : decode b_Ref_close 31 = .ok (.dup, 1) := by decide +kernel
theorem d_Ref_close_32 : decode b_Ref_close 32 = .ok (.getfield 98, 3) := by decide +kernel
theorem d_Ref_close_35 : decode b_Ref_close 35 = .ok (.iconst 1, 1) := by decide +kernel
theorem d_Ref_close_36 : decode b_Ref_close 36 = .ok (.iadd, 1) := by decide +kernel
theorem d_Ref_close_37 : decode b_Ref_close 37 = .ok (.putfield 98, 3) := by decide +kernel
theorem d_Ref_close_40 : decode b_Ref_close 40 = .ok (.aload_n 0, 1) := by decide +kernel
theorem d_Ref_close_41 : decode b_Ref_close 41 = .ok (.getfield 19, 3) := by decide +kernel
theorem d_Ref_close_44 : decode b_Ref_close 44 = .ok (.aload_n 0, 1) := by decide +kernel
theorem d_Ref_close_45 : decode b_Ref_close 45 = .ok (.getfield 98, 3) := by decide +kernel
theorem d_Ref_close_48 : decode b_Ref_close 48 = .ok (.aload_n 0, 1) := by decide +kernel
theorem d_Ref_close_49 : decode b_Ref_close 49 = .ok (.getfield 101, 3) := by decide +kernel
theorem d_Ref_close_52 : decode b_Ref_close 52 = .ok (.iastore, 1) := by decide +kernel
theorem d_Ref_close_53 : decode b_Ref_close 53 = .ok (.aload_n 0, 1) := by decide +kernel
theorem d_Ref_close_54 : decode b_Ref_close 54 = .ok (.iconst 0, 1) := by decide +kernel
theorem d_Ref_close_55 : decode b_Ref_close 55 = .ok (.putfield 87, 3) := by decide +kernel
theorem d_Ref_close_58 : decode b_Ref_close 58 = .ok (.iconst 1, 1) := by decide +kernel
theorem d_Ref_close_59 : decode b_Ref_close 59 = .ok (.ireturn, 1) := by decide +kernel
abbrev b_Ref_add : ByteArray := prog_8_method_10_code
def y_Ref_add : MethodName := ⟨"SyntaxTreesModel", "add", "(I)I"⟩
def w_Ref_add : List Cond := .code y_Ref_add b_Ref_add 2 (some .int) :: TBL
theorem hd_Ref_add : y_Ref_add.cls = "SyntaxTreesModel" ∧ y_Ref_add.cls ≠ "java/lang/invoke/MethodHandle" ∧ y_Ref_add.cls ≠ "java/lang/invoke/VarHandle" ∧ (parseMethodDescriptor y_Ref_add.desc).map (fun d => d.parameters.length) = some 1 := by decide +kernel
theorem d_Ref_add_0 : decode b_Ref_add 0 = .ok (.aload_n 0, 1) := by decide +kernel
theorem d_Ref_add_1 : decode b_Ref_add 1 = .ok (.iload_n 1, 1) := by decide +kernel
theorem d_Ref_add_2 : decode b_Ref_add 2 = .ok (.invokevirtual 74, 3) := by decide +kernel
theorem d_Ref_add_5 : decode b_Ref_add 5 = .ok (.ifCond .eq 12, 3) := by decide +kernel
theorem d_Ref_add_8 : decode b_Ref_add 8 = .ok (.aload_n 0, 1) := by decide +kernel
theorem d_Ref_add_9 : decode b_Ref_add 9 = .ok (.getfield 104, 3) := by decide +kernel
theorem d_Ref_add_12 : decode b_Ref_add 12 = .ok (.bipush 59, 2) := by decide +kernel
theorem d_Ref_add_14 : decode b_Ref_add 14 = .ok (.if_icmp .ne 5, 3) := by decide +kernel
theorem d_Ref_add_17 : decode b_Ref_add 17 = .ok (.iconst (-1), 1) := by decide +kernel
theorem d_Ref_add_18 : decode b_Ref_add 18 = .ok (.ireturn, 1) := by decide +kernel
theorem d_Ref_add_19 : decode b_Ref_add 19 = .ok (.aload_n 0, 1) := by decide +kernel
theorem d_Ref_add_20 : decode b_Ref_add 20 = .ok (.getfield 25, 3) := by decide +kernel
theorem d_Ref_add_23 : decode b_Ref_add 23 = .ok (.aload_n 0, 1) := by decide +kernel
theorem d_Ref_add_24 : decode b_Ref_add 24 = .ok (.getfield 104, 3) := by decide +kernel
theorem d_Ref_add_27 : decode b_Ref_add 27 = .ok (.iload_n 1, 1) := by decide +kernel
theorem d_Ref_add_28 : decode b_Ref_add 28 = .ok (.iastore, 1) := by decide +kernel
theorem d_Ref_add_29 : decode b_Ref_add 29 = .ok (.aload_n 0, 1) := by decide +kernel
theorem d_Ref_add_30 : decode b_Ref_add 30 = .ok (.dup, 1) := by decide +kernel
theorem d_Ref_add_31 : decode b_Ref_add 31 = .ok (.getfield 104, 3) := by decide +kernel
theorem d_Ref_add_34 : decode b_Ref_add 34 = .ok (.iconst 1, 1) := by decide +kernel
theorem d_Ref_add_35 : decode b_Ref_add 35 = .ok (.iadd, 1) := by decide +kernel
theorem d_Ref_add_36 : decode b_Ref_add 36 = .ok (.putfield 104, 3) := by decide +kernel
theorem d_Ref_add_39 : decode b_Ref_add 39 = .ok (.aload_n 0, 1) := by decide +kernel
theorem d_Ref_add_40 : decode b_Ref_add 40 = .ok (.iconst 0, 1) := by decide +kernel
theorem d_Ref_add_41 : decode b_Ref_add 41 = .ok (.putfield 87, 3) := by decide +kernel
theorem d_Ref_add_44 : decode b_Ref_add 44 = .ok (.aload_n 0, 1) := by decide +kernel
theorem d_Ref_add_45 : decode b_Ref_add 45 = .ok (.getfield 104, 3) := by decide +kernel
theorem d_Ref_add_48 : decode b_Ref_add 48 = .ok (.ireturn, 1) := by decide +kernel
abbrev b_Ref_empty : ByteArray := prog_8_method_11_code
def y_Ref_empty : MethodName := ⟨"SyntaxTreesModel", "empty", "()I"⟩
def w_Ref_empty : List Cond := .code y_Ref_empty b_Ref_empty 2 (some .int) :: TBL
theorem hd_Ref_empty : y_Ref_empty.cls = "SyntaxTreesModel" ∧ y_Ref_empty.cls ≠ "java/lang/invoke/MethodHandle" ∧ y_Ref_empty.cls ≠ "java/lang/invoke/VarHandle" ∧ (parseMethodDescriptor y_Ref_empty.desc).map (fun d => d.parameters.length) = some 0 := by decide +kernel
theorem d_Ref_empty_0 : decode b_Ref_empty 0 = .ok (.aload_n 0, 1) := by decide +kernel
theorem d_Ref_empty_1 : decode b_Ref_empty 1 = .ok (.getfield 104, 3) := by decide +kernel
theorem d_Ref_empty_4 : decode b_Ref_empty 4 = .ok (.istore_n 1, 1) := by decide +kernel
theorem d_Ref_empty_5 : decode b_Ref_empty 5 = .ok (.aload_n 0, 1) := by decide +kernel
theorem d_Ref_empty_6 : decode b_Ref_empty 6 = .ok (.iconst 0, 1) := by decide +kernel
theorem d_Ref_empty_7 : decode b_Ref_empty 7 = .ok (.putfield 104, 3) := by decide +kernel
theorem d_Ref_empty_10 : decode b_Ref_empty 10 = .ok (.aload_n 0, 1) := by decide +kernel
theorem d_Ref_empty_11 : decode b_Ref_empty 11 = .ok (.iconst 0, 1) := by decide +kernel
theorem d_Ref_empty_12 : decode b_Ref_empty 12 = .ok (.putfield 87, 3) := by decide +kernel
theorem d_Ref_empty_15 : decode b_Ref_empty 15 = .ok (.iload_n 1, 1) := by decide +kernel
theorem d_Ref_empty_16 : decode b_Ref_empty 16 = .ok (.ireturn, 1) := by decide +kernel
abbrev b_Ref_lengthOf : ByteArray := prog_8_method_12_code
def y_Ref_lengthOf : MethodName := ⟨"SyntaxTreesModel", "lengthOf", "(I)I"⟩
def w_Ref_lengthOf : List Cond := .code y_Ref_lengthOf b_Ref_lengthOf 2 (some .int) :: TBL
theorem hd_Ref_lengthOf : y_Ref_lengthOf.cls = "SyntaxTreesModel" ∧ y_Ref_lengthOf.cls ≠ "java/lang/invoke/MethodHandle" ∧ y_Ref_lengthOf.cls ≠ "java/lang/invoke/VarHandle" ∧ (parseMethodDescriptor y_Ref_lengthOf.desc).map (fun d => d.parameters.length) = some 1 := by decide +kernel
theorem d_Ref_lengthOf_0 : decode b_Ref_lengthOf 0 = .ok (.aload_n 0, 1) := by decide +kernel
theorem d_Ref_lengthOf_1 : decode b_Ref_lengthOf 1 = .ok (.getfield 19, 3) := by decide +kernel
theorem d_Ref_lengthOf_4 : decode b_Ref_lengthOf 4 = .ok (.iload_n 1, 1) := by decide +kernel
theorem d_Ref_lengthOf_5 : decode b_Ref_lengthOf 5 = .ok (.iconst 1, 1) := by decide +kernel
theorem d_Ref_lengthOf_6 : decode b_Ref_lengthOf 6 = .ok (.iadd, 1) := by decide +kernel
theorem d_Ref_lengthOf_7 : decode b_Ref_lengthOf 7 = .ok (.iaload, 1) := by decide +kernel
theorem d_Ref_lengthOf_8 : decode b_Ref_lengthOf 8 = .ok (.aload_n 0, 1) := by decide +kernel
theorem d_Ref_lengthOf_9 : decode b_Ref_lengthOf 9 = .ok (.getfield 19, 3) := by decide +kernel
theorem d_Ref_lengthOf_12 : decode b_Ref_lengthOf 12 = .ok (.iload_n 1, 1) := by decide +kernel
theorem d_Ref_lengthOf_13 : decode b_Ref_lengthOf 13 = .ok (.iaload, 1) := by decide +kernel
theorem d_Ref_lengthOf_14 : decode b_Ref_lengthOf 14 = .ok (.isub, 1) := by decide +kernel
theorem d_Ref_lengthOf_15 : decode b_Ref_lengthOf 15 = .ok (.ireturn, 1) := by decide +kernel
abbrev b_Ref_capped : ByteArray := prog_8_method_13_code
def y_Ref_capped : MethodName := ⟨"SyntaxTreesModel", "capped", "(I)I"⟩
def w_Ref_capped : List Cond := .code y_Ref_capped b_Ref_capped 1 (some .int) :: TBL
theorem hd_Ref_capped : y_Ref_capped.cls = "SyntaxTreesModel" ∧ y_Ref_capped.cls ≠ "java/lang/invoke/MethodHandle" ∧ y_Ref_capped.cls ≠ "java/lang/invoke/VarHandle" ∧ (parseMethodDescriptor y_Ref_capped.desc).map (fun d => d.parameters.length) = some 1 := by decide +kernel
theorem d_Ref_capped_0 : decode b_Ref_capped 0 = .ok (.iload_n 0, 1) := by decide +kernel
theorem d_Ref_capped_1 : decode b_Ref_capped 1 = .ok (.iconst 2, 1) := by decide +kernel
theorem d_Ref_capped_2 : decode b_Ref_capped 2 = .ok (.if_icmp .le 7, 3) := by decide +kernel
theorem d_Ref_capped_5 : decode b_Ref_capped 5 = .ok (.iconst 2, 1) := by decide +kernel
theorem d_Ref_capped_6 : decode b_Ref_capped 6 = .ok (.goto 4, 3) := by decide +kernel
theorem d_Ref_capped_9 : decode b_Ref_capped 9 = .ok (.iload_n 0, 1) := by decide +kernel
theorem d_Ref_capped_10 : decode b_Ref_capped 10 = .ok (.ireturn, 1) := by decide +kernel
abbrev b_Ref_treesOf : ByteArray := prog_8_method_14_code
def y_Ref_treesOf : MethodName := ⟨"SyntaxTreesModel", "treesOf", "(III)I"⟩
def w_Ref_treesOf : List Cond := .code y_Ref_treesOf b_Ref_treesOf 4 (some .int) :: TBL
theorem hd_Ref_treesOf : y_Ref_treesOf.cls = "SyntaxTreesModel" ∧ y_Ref_treesOf.cls ≠ "java/lang/invoke/MethodHandle" ∧ y_Ref_treesOf.cls ≠ "java/lang/invoke/VarHandle" ∧ (parseMethodDescriptor y_Ref_treesOf.desc).map (fun d => d.parameters.length) = some 3 := by decide +kernel
theorem d_Ref_treesOf_0 : decode b_Ref_treesOf 0 = .ok (.aload_n 0, 1) := by decide +kernel
theorem d_Ref_treesOf_1 : decode b_Ref_treesOf 1 = .ok (.getfield 29, 3) := by decide +kernel
theorem d_Ref_treesOf_4 : decode b_Ref_treesOf 4 = .ok (.sipush 3600, 3) := by decide +kernel
theorem d_Ref_treesOf_7 : decode b_Ref_treesOf 7 = .ok (.aload_n 0, 1) := by decide +kernel
theorem d_Ref_treesOf_8 : decode b_Ref_treesOf 8 = .ok (.getfield 13, 3) := by decide +kernel
theorem d_Ref_treesOf_11 : decode b_Ref_treesOf 11 = .ok (.aload_n 0, 1) := by decide +kernel
theorem d_Ref_treesOf_12 : decode b_Ref_treesOf 12 = .ok (.getfield 7, 3) := by decide +kernel
theorem d_Ref_treesOf_15 : decode b_Ref_treesOf 15 = .ok (.iload_n 1, 1) := by decide +kernel
theorem d_Ref_treesOf_16 : decode b_Ref_treesOf 16 = .ok (.iaload, 1) := by decide +kernel
theorem d_Ref_treesOf_17 : decode b_Ref_treesOf 17 = .ok (.iaload, 1) := by decide +kernel
theorem d_Ref_treesOf_18 : decode b_Ref_treesOf 18 = .ok (.imul, 1) := by decide +kernel
theorem d_Ref_treesOf_19 : decode b_Ref_treesOf 19 = .ok (.bipush 60, 2) := by decide +kernel
theorem d_Ref_treesOf_21 : decode b_Ref_treesOf 21 = .ok (.iload_n 2, 1) := by decide +kernel
theorem d_Ref_treesOf_22 : decode b_Ref_treesOf 22 = .ok (.imul, 1) := by decide +kernel
theorem d_Ref_treesOf_23 : decode b_Ref_treesOf 23 = .ok (.iadd, 1) := by decide +kernel
theorem d_Ref_treesOf_24 : decode b_Ref_treesOf 24 = .ok (.iload_n 3, 1) := by decide +kernel
theorem d_Ref_treesOf_25 : decode b_Ref_treesOf 25 = .ok (.iadd, 1) := by decide +kernel
theorem d_Ref_treesOf_26 : decode b_Ref_treesOf 26 = .ok (.baload, 1) := by decide +kernel
theorem d_Ref_treesOf_27 : decode b_Ref_treesOf 27 = .ok (.ireturn, 1) := by decide +kernel
abbrev b_Ref_step : ByteArray := prog_8_method_17_code
def y_Ref_step : MethodName := ⟨"SyntaxTreesModel", "step", "(IIII)V"⟩
def w_Ref_step : List Cond := .code y_Ref_step b_Ref_step 10 none :: TBL
theorem hd_Ref_step : y_Ref_step.cls = "SyntaxTreesModel" ∧ y_Ref_step.cls ≠ "java/lang/invoke/MethodHandle" ∧ y_Ref_step.cls ≠ "java/lang/invoke/VarHandle" ∧ (parseMethodDescriptor y_Ref_step.desc).map (fun d => d.parameters.length) = some 4 := by decide +kernel
theorem d_Ref_step_0 : decode b_Ref_step 0 = .ok (.bipush 60, 2) := by decide +kernel
theorem d_Ref_step_2 : decode b_Ref_step 2 = .ok (.aload_n 0, 1) := by decide +kernel
theorem d_Ref_step_3 : decode b_Ref_step 3 = .ok (.getfield 19, 3) := by decide +kernel
theorem d_Ref_step_6 : decode b_Ref_step 6 = .ok (.iload_n 1, 1) := by decide +kernel
theorem d_Ref_step_7 : decode b_Ref_step 7 = .ok (.iaload, 1) := by decide +kernel
theorem d_Ref_step_8 : decode b_Ref_step 8 = .ok (.iload_n 1, 1) := by decide +kernel
theorem d_Ref_step_9 : decode b_Ref_step 9 = .ok (.iadd, 1) := by decide +kernel
theorem d_Ref_step_10 : decode b_Ref_step 10 = .ok (.iload_n 2, 1) := by decide +kernel
theorem d_Ref_step_11 : decode b_Ref_step 11 = .ok (.iadd, 1) := by decide +kernel
theorem d_Ref_step_12 : decode b_Ref_step 12 = .ok (.imul, 1) := by decide +kernel
theorem d_Ref_step_13 : decode b_Ref_step 13 = .ok (.istore 5, 2) := by decide +kernel
theorem d_Ref_step_15 : decode b_Ref_step 15 = .ok (.aload_n 0, 1) := by decide +kernel
theorem d_Ref_step_16 : decode b_Ref_step 16 = .ok (.getfield 22, 3) := by decide +kernel
theorem d_Ref_step_19 : decode b_Ref_step 19 = .ok (.aload_n 0, 1) := by decide +kernel
theorem d_Ref_step_20 : decode b_Ref_step 20 = .ok (.getfield 19, 3) := by decide +kernel
theorem d_Ref_step_23 : decode b_Ref_step 23 = .ok (.iload_n 1, 1) := by decide +kernel
theorem d_Ref_step_24 : decode b_Ref_step 24 = .ok (.iaload, 1) := by decide +kernel
theorem d_Ref_step_25 : decode b_Ref_step 25 = .ok (.iload_n 2, 1) := by decide +kernel
theorem d_Ref_step_26 : decode b_Ref_step 26 = .ok (.iadd, 1) := by decide +kernel
theorem d_Ref_step_27 : decode b_Ref_step 27 = .ok (.iconst 1, 1) := by decide +kernel
theorem d_Ref_step_28 : decode b_Ref_step 28 = .ok (.isub, 1) := by decide +kernel
theorem d_Ref_step_29 : decode b_Ref_step 29 = .ok (.iaload, 1) := by decide +kernel
theorem d_Ref_step_30 : decode b_Ref_step 30 = .ok (.istore 6, 2) := by decide +kernel
theorem d_Ref_step_32 : decode b_Ref_step 32 = .ok (.aload_n 0, 1) := by decide +kernel
theorem d_Ref_step_33 : decode b_Ref_step 33 = .ok (.getfield 7, 3) := by decide +kernel
theorem d_Ref_step_36 : decode b_Ref_step 36 = .ok (.iload 6, 2) := by decide +kernel
theorem d_Ref_step_38 : decode b_Ref_step 38 = .ok (.iaload, 1) := by decide +kernel
theorem d_Ref_step_39 : decode b_Ref_step 39 = .ok (.iconst (-1), 1) := by decide +kernel
theorem d_Ref_step_40 : decode b_Ref_step 40 = .ok (.if_icmp .ne 49, 3) := by decide +kernel
theorem d_Ref_step_43 : decode b_Ref_step 43 = .ok (.aload_n 0, 1) := by decide +kernel
theorem d_Ref_step_44 : decode b_Ref_step 44 = .ok (.getfield 34, 3) := by decide +kernel
theorem d_Ref_step_47 : decode b_Ref_step 47 = .ok (.iload 5, 2) := by decide +kernel
theorem d_Ref_step_49 : decode b_Ref_step 49 = .ok (.iload 4, 2) := by decide +kernel
theorem d_Ref_step_51 : decode b_Ref_step 51 = .ok (.iadd, 1) := by decide +kernel
theorem d_Ref_step_52 : decode b_Ref_step 52 = .ok (.aload_n 0, 1) := by decide +kernel
theorem d_Ref_step_53 : decode b_Ref_step 53 = .ok (.getfield 25, 3) := by decide +kernel
theorem d_Ref_step_56 : decode b_Ref_step 56 = .ok (.iload 4, 2) := by decide +kernel
theorem d_Ref_step_58 : decode b_Ref_step 58 = .ok (.iconst 1, 1) := by decide +kernel
theorem d_Ref_step_59 : decode b_Ref_step 59 = .ok (.isub, 1) := by decide +kernel
theorem d_Ref_step_60 : decode b_Ref_step 60 = .ok (.iaload, 1) := by decide +kernel
theorem d_Ref_step_61 : decode b_Ref_step 61 = .ok (.iload 6, 2) := by decide +kernel
theorem d_Ref_step_63 : decode b_Ref_step 63 = .ok (.if_icmp .ne 21, 3) := by decide +kernel
theorem d_Ref_step_66 : decode b_Ref_step 66 = .ok (.aload_n 0, 1) := by decide +kernel
theorem d_Ref_step_67 : decode b_Ref_step 67 = .ok (.getfield 34, 3) := by decide +kernel
theorem d_Ref_step_70 : decode b_Ref_step 70 = .ok (.iload 5, 2) := by decide +kernel
theorem d_Ref_step_72 : decode b_Ref_step 72 = .ok (.bipush 60, 2) := by decide +kernel
theorem d_Ref_step_74 : decode b_Ref_step 74 = .ok (.isub, 1) := by decide +kernel
theorem d_Ref_step_75 : decode b_Ref_step 75 = .ok (.iload 4, 2) := by decide +kernel
theorem d_Ref_step_77 : decode b_Ref_step 77 = .ok (.iadd, 1) := by decide +kernel
theorem d_Ref_step_78 : decode b_Ref_step 78 = .ok (.iconst 1, 1) := by decide +kernel
theorem d_Ref_step_79 : decode b_Ref_step 79 = .ok (.isub, 1) := by decide +kernel
theorem d_Ref_step_80 : decode b_Ref_step 80 = .ok (.baload, 1) := by decide +kernel
theorem d_Ref_step_81 : decode b_Ref_step 81 = .ok (.goto 4, 3) := by decide +kernel
theorem d_Ref_step_84 : decode b_Ref_step 84 = .ok (.iconst 0, 1) := by decide +kernel
theorem d_Ref_step_85 : decode b_Ref_step 85 = .ok (.bastore, 1) := by decide +kernel
theorem d_Ref_step_86 : decode b_Ref_step 86 = .ok (.goto 93, 3) := by decide +kernel
theorem d_Ref_step_89 : decode b_Ref_step 89 = .ok (.iload_n 2, 1) := by decide +kernel
theorem d_Ref_step_90 : decode b_Ref_step 90 = .ok (.iconst 1, 1) := by decide +kernel
theorem d_Ref_step_91 : decode b_Ref_step 91 = .ok (.if_icmp .le 88, 3) := by decide +kernel
theorem d_Ref_step_94 : decode b_Ref_step 94 = .ok (.iconst 0, 1) := by decide +kernel
theorem d_Ref_step_95 : decode b_Ref_step 95 = .ok (.istore 7, 2) := by decide +kernel
theorem d_Ref_step_97 : decode b_Ref_step 97 = .ok (.iload_n 3, 1) := by decide +kernel
theorem d_Ref_step_98 : decode b_Ref_step 98 = .ok (.iconst 1, 1) := by decide +kernel
theorem d_Ref_step_99 : decode b_Ref_step 99 = .ok (.iadd, 1) := by decide +kernel
theorem d_Ref_step_100 : decode b_Ref_step 100 = .ok (.istore 8, 2) := by decide +kernel
theorem d_Ref_step_102 : decode b_Ref_step 102 = .ok (.iload 8, 2) := by decide +kernel
theorem d_Ref_step_104 : decode b_Ref_step 104 = .ok (.iload 4, 2) := by decide +kernel
theorem d_Ref_step_106 : decode b_Ref_step 106 = .ok (.if_icmp .ge 57, 3) := by decide +kernel
theorem d_Ref_step_109 : decode b_Ref_step 109 = .ok (.iload 7, 2) := by decide +kernel
theorem d_Ref_step_111 : decode b_Ref_step 111 = .ok (.iconst 2, 1) := by decide +kernel
theorem d_Ref_step_112 : decode b_Ref_step 112 = .ok (.if_icmp .ge 51, 3) := by decide +kernel
theorem d_Ref_step_115 : decode b_Ref_step 115 = .ok (.aload_n 0, 1) := by decide +kernel
theorem d_Ref_step_116 : decode b_Ref_step 116 = .ok (.getfield 34, 3) := by decide +kernel
theorem d_Ref_step_119 : decode b_Ref_step 119 = .ok (.iload 5, 2) := by decide +kernel
theorem d_Ref_step_121 : decode b_Ref_step 121 = .ok (.bipush 60, 2) := by decide +kernel
theorem d_Ref_step_123 : decode b_Ref_step 123 = .ok (.isub, 1) := by decide +kernel
theorem d_Ref_step_124 : decode b_Ref_step 124 = .ok (.iload 8, 2) := by decide +kernel
theorem d_Ref_step_126 : decode b_Ref_step 126 = .ok (.iadd, 1) := by decide +kernel
theorem d_Ref_step_127 : decode b_Ref_step 127 = .ok (.baload, 1) := by decide +kernel
theorem d_Ref_step_128 : decode b_Ref_step 128 = .ok (.istore 9, 2) := by decide +kernel
theorem d_Ref_step_130 : decode b_Ref_step 130 = .ok (.iload 7, 2) := by decide +kernel
theorem d_Ref_step_132 : decode b_Ref_step 132 = .ok (.iload 9, 2) := by decide +kernel
theorem d_Ref_step_134 : decode b_Ref_step 134 = .ok (.ifCond .ne 7, 3) := by decide +kernel
theorem d_Ref_step_137 : decode b_Ref_step 137 = .ok (.iconst 0, 1) := by decide +kernel
theorem d_Ref_step_138 : decode b_Ref_step 138 = .ok (.goto 16, 3) := by decide +kernel
theorem d_Ref_step_141 : decode b_Ref_step 141 = .ok (.iload 9, 2) := by decide +kernel
theorem d_Ref_step_143 : decode b_Ref_step 143 = .ok (.aload_n 0, 1) := by decide +kernel
theorem d_Ref_step_144 : decode b_Ref_step 144 = .ok (.iload 6, 2) := by decide +kernel
theorem d_Ref_step_146 : decode b_Ref_step 146 = .ok (.iload 8, 2) := by decide +kernel
theorem d_Ref_step_148 : decode b_Ref_step 148 = .ok (.iload 4, 2) := by decide +kernel
theorem d_Ref_step_150 : decode b_Ref_step 150 = .ok (.invokevirtual 128, 3) := by decide +kernel
theorem d_Ref_step_153 : decode b_Ref_step 153 = .ok (.imul, 1) := by decide +kernel
theorem d_Ref_step_154 : decode b_Ref_step 154 = .ok (.iadd, 1) := by decide +kernel
theorem d_Ref_step_155 : decode b_Ref_step 155 = .ok (.istore 7, 2) := by decide +kernel
theorem d_Ref_step_157 : decode b_Ref_step 157 = .ok (.iinc 8 1, 3) := by decide +kernel
theorem d_Ref_step_160 : decode b_Ref_step 160 = .ok (.goto (-58), 3) := by decide +kernel
theorem d_Ref_step_163 : decode b_Ref_step 163 = .ok (.aload_n 0, 1) := by decide +kernel
theorem d_Ref_step_164 : decode b_Ref_step 164 = .ok (.getfield 34, 3) := by decide +kernel
theorem d_Ref_step_167 : decode b_Ref_step 167 = .ok (.iload 5, 2) := by decide +kernel
theorem d_Ref_step_169 : decode b_Ref_step 169 = .ok (.iload 4, 2) := by decide +kernel
theorem d_Ref_step_171 : decode b_Ref_step 171 = .ok (.iadd, 1) := by decide +kernel
theorem d_Ref_step_172 : decode b_Ref_step 172 = .ok (.iload 7, 2) := by decide +kernel
theorem d_Ref_step_174 : decode b_Ref_step 174 = .ok (.invokestatic 122, 3) := by decide +kernel
theorem d_Ref_step_177 : decode b_Ref_step 177 = .ok (.i2b, 1) := by decide +kernel
theorem d_Ref_step_178 : decode b_Ref_step 178 = .ok (.bastore, 1) := by decide +kernel
theorem d_Ref_step_179 : decode b_Ref_step 179 = .ok (.return_, 1) := by decide +kernel
abbrev b_Ref_unite : ByteArray := prog_8_method_18_code
def y_Ref_unite : MethodName := ⟨"SyntaxTreesModel", "unite", "(III)V"⟩
def w_Ref_unite : List Cond := .code y_Ref_unite b_Ref_unite 7 none :: TBL
theorem hd_Ref_unite : y_Ref_unite.cls = "SyntaxTreesModel" ∧ y_Ref_unite.cls ≠ "java/lang/invoke/MethodHandle" ∧ y_Ref_unite.cls ≠ "java/lang/invoke/VarHandle" ∧ (parseMethodDescriptor y_Ref_unite.desc).map (fun d => d.parameters.length) = some 3 := by decide +kernel
theorem d_Ref_unite_0 : decode b_Ref_unite 0 = .ok (.iconst 0, 1) := by decide +kernel
theorem d_Ref_unite_1 : decode b_Ref_unite 1 = .ok (.istore 4, 2) := by decide +kernel
theorem d_Ref_unite_3 : decode b_Ref_unite 3 = .ok (.iload 4, 2) := by decide +kernel
theorem d_Ref_unite_5 : decode b_Ref_unite 5 = .ok (.aload_n 0, 1) := by decide +kernel
theorem d_Ref_unite_6 : decode b_Ref_unite 6 = .ok (.getfield 81, 3) := by decide +kernel
theorem d_Ref_unite_9 : decode b_Ref_unite 9 = .ok (.if_icmp .ge 35, 3) := by decide +kernel
theorem d_Ref_unite_12 : decode b_Ref_unite 12 = .ok (.aload_n 0, 1) := by decide +kernel
theorem d_Ref_unite_13 : decode b_Ref_unite 13 = .ok (.getfield 29, 3) := by decide +kernel
theorem d_Ref_unite_16 : decode b_Ref_unite 16 = .ok (.sipush 3600, 3) := by decide +kernel
theorem d_Ref_unite_19 : decode b_Ref_unite 19 = .ok (.iload 4, 2) := by decide +kernel
theorem d_Ref_unite_21 : decode b_Ref_unite 21 = .ok (.imul, 1) := by decide +kernel
theorem d_Ref_unite_22 : decode b_Ref_unite 22 = .ok (.bipush 60, 2) := by decide +kernel
theorem d_Ref_unite_24 : decode b_Ref_unite 24 = .ok (.iload_n 1, 1) := by decide +kernel
theorem d_Ref_unite_25 : decode b_Ref_unite 25 = .ok (.imul, 1) := by decide +kernel
theorem d_Ref_unite_26 : decode b_Ref_unite 26 = .ok (.iadd, 1) := by decide +kernel
theorem d_Ref_unite_27 : decode b_Ref_unite 27 = .ok (.iload_n 2, 1) := by decide +kernel
theorem d_Ref_unite_28 : decode b_Ref_unite 28 = .ok (.iadd, 1) := by decide +kernel
theorem d_Ref_unite_29 : decode b_Ref_unite 29 = .ok (.aload_n 0, 1) := by decide +kernel
theorem d_Ref_unite_30 : decode b_Ref_unite 30 = .ok (.getfield 37, 3) := by decide +kernel
theorem d_Ref_unite_33 : decode b_Ref_unite 33 = .ok (.iload 4, 2) := by decide +kernel
theorem d_Ref_unite_35 : decode b_Ref_unite 35 = .ok (.iaload, 1) := by decide +kernel
theorem d_Ref_unite_36 : decode b_Ref_unite 36 = .ok (.i2b, 1) := by decide +kernel
theorem d_Ref_unite_37 : decode b_Ref_unite 37 = .ok (.bastore, 1) := by decide +kernel
theorem d_Ref_unite_38 : decode b_Ref_unite 38 = .ok (.iinc 4 1, 3) := by decide +kernel
theorem d_Ref_unite_41 : decode b_Ref_unite 41 = .ok (.goto (-38), 3) := by decide +kernel
theorem d_Ref_unite_44 : decode b_Ref_unite 44 = .ok (.iconst 1, 1) := by decide +kernel
theorem d_Ref_unite_45 : decode b_Ref_unite 45 = .ok (.istore 4, 2) := by decide +kernel
theorem d_Ref_unite_47 : decode b_Ref_unite 47 = .ok (.iload 4, 2) := by decide +kernel
theorem d_Ref_unite_49 : decode b_Ref_unite 49 = .ok (.ifCond .eq 221, 3) := by decide +kernel
theorem d_Ref_unite_52 : decode b_Ref_unite 52 = .ok (.iconst 0, 1) := by decide +kernel
theorem d_Ref_unite_53 : decode b_Ref_unite 53 = .ok (.istore 4, 2) := by decide +kernel
theorem d_Ref_unite_55 : decode b_Ref_unite 55 = .ok (.iconst 0, 1) := by decide +kernel
theorem d_Ref_unite_56 : decode b_Ref_unite 56 = .ok (.istore 5, 2) := by decide +kernel
theorem d_Ref_unite_58 : decode b_Ref_unite 58 = .ok (.iload 5, 2) := by decide +kernel
theorem d_Ref_unite_60 : decode b_Ref_unite 60 = .ok (.aload_n 0, 1) := by decide +kernel
theorem d_Ref_unite_61 : decode b_Ref_unite 61 = .ok (.getfield 81, 3) := by decide +kernel
theorem d_Ref_unite_64 : decode b_Ref_unite 64 = .ok (.if_icmp .ge 23, 3) := by decide +kernel
theorem d_Ref_unite_67 : decode b_Ref_unite 67 = .ok (.aload_n 0, 1) := by decide +kernel
theorem d_Ref_unite_68 : decode b_Ref_unite 68 = .ok (.getfield 67, 3) := by decide +kernel
theorem d_Ref_unite_71 : decode b_Ref_unite 71 = .ok (.iload 5, 2) := by decide +kernel
theorem d_Ref_unite_73 : decode b_Ref_unite 73 = .ok (.aload_n 0, 1) := by decide +kernel
theorem d_Ref_unite_74 : decode b_Ref_unite 74 = .ok (.getfield 37, 3) := by decide +kernel
theorem d_Ref_unite_77 : decode b_Ref_unite 77 = .ok (.iload 5, 2) := by decide +kernel
theorem d_Ref_unite_79 : decode b_Ref_unite 79 = .ok (.iaload, 1) := by decide +kernel
theorem d_Ref_unite_80 : decode b_Ref_unite 80 = .ok (.iastore, 1) := by decide +kernel
theorem d_Ref_unite_81 : decode b_Ref_unite 81 = .ok (.iinc 5 1, 3) := by decide +kernel
theorem d_Ref_unite_84 : decode b_Ref_unite 84 = .ok (.goto (-26), 3) := by decide +kernel
theorem d_Ref_unite_87 : decode b_Ref_unite 87 = .ok (.iconst 0, 1) := by decide +kernel
theorem d_Ref_unite_88 : decode b_Ref_unite 88 = .ok (.istore 5, 2) := by decide +kernel
theorem d_Ref_unite_90 : decode b_Ref_unite 90 = .ok (.iload 5, 2) := by decide +kernel
theorem d_Ref_unite_92 : decode b_Ref_unite 92 = .ok (.iload_n 3, 1) := by decide +kernel
theorem d_Ref_unite_93 : decode b_Ref_unite 93 = .ok (.if_icmp .ge 90, 3) := by decide +kernel
theorem d_Ref_unite_96 : decode b_Ref_unite 96 = .ok (.aload_n 0, 1) := by decide +kernel
theorem d_Ref_unite_97 : decode b_Ref_unite 97 = .ok (.iload 5, 2) := by decide +kernel
theorem d_Ref_unite_99 : decode b_Ref_unite 99 = .ok (.invokevirtual 110, 3) := by decide +kernel
theorem d_Ref_unite_102 : decode b_Ref_unite 102 = .ok (.iconst 1, 1) := by decide +kernel
theorem d_Ref_unite_103 : decode b_Ref_unite 103 = .ok (.if_icmp .ne 74, 3) := by decide +kernel
theorem d_Ref_unite_106 : decode b_Ref_unite 106 = .ok (.aload_n 0, 1) := by decide +kernel
theorem d_Ref_unite_107 : decode b_Ref_unite 107 = .ok (.getfield 7, 3) := by decide +kernel
theorem d_Ref_unite_110 : decode b_Ref_unite 110 = .ok (.aload_n 0, 1) := by decide +kernel
theorem d_Ref_unite_111 : decode b_Ref_unite 111 = .ok (.getfield 22, 3) := by decide +kernel
theorem d_Ref_unite_114 : decode b_Ref_unite 114 = .ok (.aload_n 0, 1) := by decide +kernel
theorem d_Ref_unite_115 : decode b_Ref_unite 115 = .ok (.getfield 19, 3) := by decide +kernel
theorem d_Ref_unite_118 : decode b_Ref_unite 118 = .ok (.iload 5, 2) := by decide +kernel
theorem d_Ref_unite_120 : decode b_Ref_unite 120 = .ok (.iaload, 1) := by decide +kernel
theorem d_Ref_unite_121 : decode b_Ref_unite 121 = .ok (.iaload, 1) := by decide +kernel
theorem d_Ref_unite_122 : decode b_Ref_unite 122 = .ok (.iaload, 1) := by decide +kernel
theorem d_Ref_unite_123 : decode b_Ref_unite 123 = .ok (.iconst (-1), 1) := by decide +kernel
theorem d_Ref_unite_124 : decode b_Ref_unite 124 = .ok (.if_icmp .eq 53, 3) := by decide +kernel
theorem d_Ref_unite_127 : decode b_Ref_unite 127 = .ok (.aload_n 0, 1) := by decide +kernel
theorem d_Ref_unite_128 : decode b_Ref_unite 128 = .ok (.getfield 13, 3) := by decide +kernel
theorem d_Ref_unite_131 : decode b_Ref_unite 131 = .ok (.aload_n 0, 1) := by decide +kernel
theorem d_Ref_unite_132 : decode b_Ref_unite 132 = .ok (.getfield 16, 3) := by decide +kernel
theorem d_Ref_unite_135 : decode b_Ref_unite 135 = .ok (.iload 5, 2) := by decide +kernel
theorem d_Ref_unite_137 : decode b_Ref_unite 137 = .ok (.iaload, 1) := by decide +kernel
theorem d_Ref_unite_138 : decode b_Ref_unite 138 = .ok (.iaload, 1) := by decide +kernel
theorem d_Ref_unite_139 : decode b_Ref_unite 139 = .ok (.istore 6, 2) := by decide +kernel
theorem d_Ref_unite_141 : decode b_Ref_unite 141 = .ok (.aload_n 0, 1) := by decide +kernel
theorem d_Ref_unite_142 : decode b_Ref_unite 142 = .ok (.getfield 67, 3) := by decide +kernel
theorem d_Ref_unite_145 : decode b_Ref_unite 145 = .ok (.iload 6, 2) := by decide +kernel
theorem d_Ref_unite_147 : decode b_Ref_unite 147 = .ok (.aload_n 0, 1) := by decide +kernel
theorem d_Ref_unite_148 : decode b_Ref_unite 148 = .ok (.getfield 67, 3) := by decide +kernel
theorem d_Ref_unite_151 : decode b_Ref_unite 151 = .ok (.iload 6, 2) := by decide +kernel
theorem d_Ref_unite_153 : decode b_Ref_unite 153 = .ok (.iaload, 1) := by decide +kernel
theorem d_Ref_unite_154 : decode b_Ref_unite 154 = .ok (.aload_n 0, 1) := by decide +kernel
theorem d_Ref_unite_155 : decode b_Ref_unite 155 = .ok (.aload_n 0, 1) := by decide +kernel
theorem d_Ref_unite_156 : decode b_Ref_unite 156 = .ok (.getfield 22, 3) := by decide +kernel
theorem d_Ref_unite_159 : decode b_Ref_unite 159 = .ok (.aload_n 0, 1) := by decide +kernel
theorem d_Ref_unite_160 : decode b_Ref_unite 160 = .ok (.getfield 19, 3) := by decide +kernel
theorem d_Ref_unite_163 : decode b_Ref_unite 163 = .ok (.iload 5, 2) := by decide +kernel
theorem d_Ref_unite_165 : decode b_Ref_unite 165 = .ok (.iaload, 1) := by decide +kernel
theorem d_Ref_unite_166 : decode b_Ref_unite 166 = .ok (.iaload, 1) := by decide +kernel
theorem d_Ref_unite_167 : decode b_Ref_unite 167 = .ok (.iload_n 1, 1) := by decide +kernel
theorem d_Ref_unite_168 : decode b_Ref_unite 168 = .ok (.iload_n 2, 1) := by decide +kernel
theorem d_Ref_unite_169 : decode b_Ref_unite 169 = .ok (.invokevirtual 128, 3) := by decide +kernel
theorem d_Ref_unite_172 : decode b_Ref_unite 172 = .ok (.iadd, 1) := by decide +kernel
theorem d_Ref_unite_173 : decode b_Ref_unite 173 = .ok (.invokestatic 122, 3) := by decide +kernel
theorem d_Ref_unite_176 : decode b_Ref_unite 176 = .ok (.iastore, 1) := by decide +kernel
theorem d_Ref_unite_177 : decode b_Ref_unite 177 = .ok (.iinc 5 1, 3) := by decide +kernel
theorem d_Ref_unite_180 : decode b_Ref_unite 180 = .ok (.goto (-90), 3) := by decide +kernel
theorem d_Ref_unite_183 : decode b_Ref_unite 183 = .ok (.iconst 0, 1) := by decide +kernel
theorem d_Ref_unite_184 : decode b_Ref_unite 184 = .ok (.istore 5, 2) := by decide +kernel
theorem d_Ref_unite_186 : decode b_Ref_unite 186 = .ok (.iload 5, 2) := by decide +kernel
theorem d_Ref_unite_188 : decode b_Ref_unite 188 = .ok (.aload_n 0, 1) := by decide +kernel
theorem d_Ref_unite_189 : decode b_Ref_unite 189 = .ok (.getfield 81, 3) := by decide +kernel
theorem d_Ref_unite_192 : decode b_Ref_unite 192 = .ok (.if_icmp .ge 75, 3) := by decide +kernel
theorem d_Ref_unite_195 : decode b_Ref_unite 195 = .ok (.iload 4, 2) := by decide +kernel
theorem d_Ref_unite_197 : decode b_Ref_unite 197 = .ok (.ifCond .ne 31, 3) := by decide +kernel
theorem d_Ref_unite_200 : decode b_Ref_unite 200 = .ok (.aload_n 0, 1) := by decide +kernel
theorem d_Ref_unite_201 : decode b_Ref_unite 201 = .ok (.getfield 29, 3) := by decide +kernel
theorem d_Ref_unite_204 : decode b_Ref_unite 204 = .ok (.sipush 3600, 3) := by decide +kernel
theorem d_Ref_unite_207 : decode b_Ref_unite 207 = .ok (.iload 5, 2) := by decide +kernel
theorem d_Ref_unite_209 : decode b_Ref_unite 209 = .ok (.imul, 1) := by decide +kernel
theorem d_Ref_unite_210 : decode b_Ref_unite 210 = .ok (.bipush 60, 2) := by decide +kernel
theorem d_Ref_unite_212 : decode b_Ref_unite 212 = .ok (.iload_n 1, 1) := by decide +kernel
theorem d_Ref_unite_213 : decode b_Ref_unite 213 = .ok (.imul, 1) := by decide +kernel
theorem d_Ref_unite_214 : decode b_Ref_unite 214 = .ok (.iadd, 1) := by decide +kernel
theorem d_Ref_unite_215 : decode b_Ref_unite 215 = .ok (.iload_n 2, 1) := by decide +kernel
theorem d_Ref_unite_216 : decode b_Ref_unite 216 = .ok (.iadd, 1) := by decide +kernel
theorem d_Ref_unite_217 : decode b_Ref_unite 217 = .ok (.baload, 1) := by decide +kernel
theorem d_Ref_unite_218 : decode b_Ref_unite 218 = .ok (.aload_n 0, 1) := by decide +kernel
theorem d_Ref_unite_219 : decode b_Ref_unite 219 = .ok (.getfield 67, 3) := by decide +kernel
theorem d_Ref_unite_222 : decode b_Ref_unite 222 = .ok (.iload 5, 2) := by decide +kernel
theorem d_Ref_unite_224 : decode b_Ref_unite 224 = .ok (.iaload, 1) := by decide +kernel
theorem d_Ref_unite_225 : decode b_Ref_unite 225 = .ok (.if_icmp .eq 7, 3) := by decide +kernel
theorem d_Ref_unite_228 : decode b_Ref_unite 228 = .ok (.iconst 1, 1) := by decide +kernel
theorem d_Ref_unite_229 : decode b_Ref_unite 229 = .ok (.goto 4, 3) := by decide +kernel
theorem d_Ref_unite_232 : decode b_Ref_unite 232 = .ok (.iconst 0, 1) := by decide +kernel
theorem d_Ref_unite_233 : decode b_Ref_unite 233 = .ok (.istore 4, 2) := by decide +kernel
theorem d_Ref_unite_235 : decode b_Ref_unite 235 = .ok (.aload_n 0, 1) := by decide +kernel
theorem d_Ref_unite_236 : decode b_Ref_unite 236 = .ok (.getfield 29, 3) := by decide +kernel
theorem d_Ref_unite_239 : decode b_Ref_unite 239 = .ok (.sipush 3600, 3) := by decide +kernel
theorem d_Ref_unite_242 : decode b_Ref_unite 242 = .ok (.iload 5, 2) := by decide +kernel
theorem d_Ref_unite_244 : decode b_Ref_unite 244 = .ok (.imul, 1) := by decide +kernel
theorem d_Ref_unite_245 : decode b_Ref_unite 245 = .ok (.bipush 60, 2) := by decide +kernel
theorem d_Ref_unite_247 : decode b_Ref_unite 247 = .ok (.iload_n 1, 1) := by decide +kernel
theorem d_Ref_unite_248 : decode b_Ref_unite 248 = .ok (.imul, 1) := by decide +kernel
theorem d_Ref_unite_249 : decode b_Ref_unite 249 = .ok (.iadd, 1) := by decide +kernel
theorem d_Ref_unite_250 : decode b_Ref_unite 250 = .ok (.iload_n 2, 1) := by decide +kernel
theorem d_Ref_unite_251 : decode b_Ref_unite 251 = .ok (.iadd, 1) := by decide +kernel
theorem d_Ref_unite_252 : decode b_Ref_unite 252 = .ok (.aload_n 0, 1) := by decide +kernel
theorem d_Ref_unite_253 : decode b_Ref_unite 253 = .ok (.getfield 67, 3) := by decide +kernel
theorem d_Ref_unite_256 : decode b_Ref_unite 256 = .ok (.iload 5, 2) := by decide +kernel
theorem d_Ref_unite_258 : decode b_Ref_unite 258 = .ok (.iaload, 1) := by decide +kernel
theorem d_Ref_unite_259 : decode b_Ref_unite 259 = .ok (.i2b, 1) := by decide +kernel
theorem d_Ref_unite_260 : decode b_Ref_unite 260 = .ok (.bastore, 1) := by decide +kernel
theorem d_Ref_unite_261 : decode b_Ref_unite 261 = .ok (.iinc 5 1, 3) := by decide +kernel
theorem d_Ref_unite_264 : decode b_Ref_unite 264 = .ok (.goto (-78), 3) := by decide +kernel
theorem d_Ref_unite_267 : decode b_Ref_unite 267 = .ok (.goto (-220), 3) := by decide +kernel
theorem d_Ref_unite_270 : decode b_Ref_unite 270 = .ok (.return_, 1) := by decide +kernel
abbrev b_Ref_lay : ByteArray := prog_8_method_22_code
def y_Ref_lay : MethodName := ⟨"SyntaxTreesModel", "lay", "(III)V"⟩
def w_Ref_lay : List Cond := .code y_Ref_lay b_Ref_lay 4 none :: TBL
theorem hd_Ref_lay : y_Ref_lay.cls = "SyntaxTreesModel" ∧ y_Ref_lay.cls ≠ "java/lang/invoke/MethodHandle" ∧ y_Ref_lay.cls ≠ "java/lang/invoke/VarHandle" ∧ (parseMethodDescriptor y_Ref_lay.desc).map (fun d => d.parameters.length) = some 3 := by decide +kernel
theorem d_Ref_lay_0 : decode b_Ref_lay 0 = .ok (.aload_n 0, 1) := by decide +kernel
theorem d_Ref_lay_1 : decode b_Ref_lay 1 = .ok (.getfield 43, 3) := by decide +kernel
theorem d_Ref_lay_4 : decode b_Ref_lay 4 = .ok (.aload_n 0, 1) := by decide +kernel
theorem d_Ref_lay_5 : decode b_Ref_lay 5 = .ok (.getfield 143, 3) := by decide +kernel
theorem d_Ref_lay_8 : decode b_Ref_lay 8 = .ok (.iload_n 1, 1) := by decide +kernel
theorem d_Ref_lay_9 : decode b_Ref_lay 9 = .ok (.iastore, 1) := by decide +kernel
theorem d_Ref_lay_10 : decode b_Ref_lay 10 = .ok (.aload_n 0, 1) := by decide +kernel
theorem d_Ref_lay_11 : decode b_Ref_lay 11 = .ok (.getfield 46, 3) := by decide +kernel
theorem d_Ref_lay_14 : decode b_Ref_lay 14 = .ok (.aload_n 0, 1) := by decide +kernel
theorem d_Ref_lay_15 : decode b_Ref_lay 15 = .ok (.getfield 143, 3) := by decide +kernel
theorem d_Ref_lay_18 : decode b_Ref_lay 18 = .ok (.iload_n 2, 1) := by decide +kernel
theorem d_Ref_lay_19 : decode b_Ref_lay 19 = .ok (.iastore, 1) := by decide +kernel
theorem d_Ref_lay_20 : decode b_Ref_lay 20 = .ok (.aload_n 0, 1) := by decide +kernel
theorem d_Ref_lay_21 : decode b_Ref_lay 21 = .ok (.getfield 49, 3) := by decide +kernel
theorem d_Ref_lay_24 : decode b_Ref_lay 24 = .ok (.aload_n 0, 1) := by decide +kernel
theorem d_Ref_lay_25 : decode b_Ref_lay 25 = .ok (.getfield 143, 3) := by decide +kernel
theorem d_Ref_lay_28 : decode b_Ref_lay 28 = .ok (.iload_n 3, 1) := by decide +kernel
theorem d_Ref_lay_29 : decode b_Ref_lay 29 = .ok (.iastore, 1) := by decide +kernel
theorem d_Ref_lay_30 : decode b_Ref_lay 30 = .ok (.aload_n 0, 1) := by decide +kernel
theorem d_Ref_lay_31 : decode b_Ref_lay 31 = .ok (.getfield 40, 3) := by decide +kernel
theorem d_Ref_lay_34 : decode b_Ref_lay 34 = .ok (.aload_n 0, 1) := by decide +kernel
theorem d_Ref_lay_35 : decode b_Ref_lay 35 = .ok (.getfield 143, 3) := by decide +kernel
theorem d_Ref_lay_38 : decode b_Ref_lay 38 = .ok (.iconst (-1), 1) := by decide +kernel
theorem d_Ref_lay_39 : decode b_Ref_lay 39 = .ok (.iastore, 1) := by decide +kernel
theorem d_Ref_lay_40 : decode b_Ref_lay 40 = .ok (.aload_n 0, 1) := by decide +kernel
theorem d_Ref_lay_41 : decode b_Ref_lay 41 = .ok (.getfield 58, 3) := by decide +kernel
theorem d_Ref_lay_44 : decode b_Ref_lay 44 = .ok (.aload_n 0, 1) := by decide +kernel
theorem d_Ref_lay_45 : decode b_Ref_lay 45 = .ok (.getfield 143, 3) := by decide +kernel
theorem d_Ref_lay_48 : decode b_Ref_lay 48 = .ok (.iconst (-1), 1) := by decide +kernel
theorem d_Ref_lay_49 : decode b_Ref_lay 49 = .ok (.iastore, 1) := by decide +kernel
theorem d_Ref_lay_50 : decode b_Ref_lay 50 = .ok (.aload_n 0, 1) := by decide +kernel
theorem d_Ref_lay_51 : decode b_Ref_lay 51 = .ok (.getfield 52, 3) := by decide +kernel
theorem d_Ref_lay_54 : decode b_Ref_lay 54 = .ok (.aload_n 0, 1) := by decide +kernel
theorem d_Ref_lay_55 : decode b_Ref_lay 55 = .ok (.getfield 143, 3) := by decide +kernel
theorem d_Ref_lay_58 : decode b_Ref_lay 58 = .ok (.iconst (-1), 1) := by decide +kernel
theorem d_Ref_lay_59 : decode b_Ref_lay 59 = .ok (.iastore, 1) := by decide +kernel
theorem d_Ref_lay_60 : decode b_Ref_lay 60 = .ok (.aload_n 0, 1) := by decide +kernel
theorem d_Ref_lay_61 : decode b_Ref_lay 61 = .ok (.getfield 55, 3) := by decide +kernel
theorem d_Ref_lay_64 : decode b_Ref_lay 64 = .ok (.aload_n 0, 1) := by decide +kernel
theorem d_Ref_lay_65 : decode b_Ref_lay 65 = .ok (.getfield 143, 3) := by decide +kernel
theorem d_Ref_lay_68 : decode b_Ref_lay 68 = .ok (.iconst 0, 1) := by decide +kernel
theorem d_Ref_lay_69 : decode b_Ref_lay 69 = .ok (.iastore, 1) := by decide +kernel
theorem d_Ref_lay_70 : decode b_Ref_lay 70 = .ok (.aload_n 0, 1) := by decide +kernel
theorem d_Ref_lay_71 : decode b_Ref_lay 71 = .ok (.dup, 1) := by decide +kernel
theorem d_Ref_lay_72 : decode b_Ref_lay 72 = .ok (.getfield 143, 3) := by decide +kernel
theorem d_Ref_lay_75 : decode b_Ref_lay 75 = .ok (.iconst 1, 1) := by decide +kernel
theorem d_Ref_lay_76 : decode b_Ref_lay 76 = .ok (.iadd, 1) := by decide +kernel
theorem d_Ref_lay_77 : decode b_Ref_lay 77 = .ok (.putfield 143, 3) := by decide +kernel
theorem d_Ref_lay_80 : decode b_Ref_lay 80 = .ok (.return_, 1) := by decide +kernel
abbrev b_Ref_ends : ByteArray := prog_8_method_24_code
def y_Ref_ends : MethodName := ⟨"SyntaxTreesModel", "ends", "(IIII)Z"⟩
def w_Ref_ends : List Cond := .code y_Ref_ends b_Ref_ends 14 (some .boolean) :: TBL
theorem hd_Ref_ends : y_Ref_ends.cls = "SyntaxTreesModel" ∧ y_Ref_ends.cls ≠ "java/lang/invoke/MethodHandle" ∧ y_Ref_ends.cls ≠ "java/lang/invoke/VarHandle" ∧ (parseMethodDescriptor y_Ref_ends.desc).map (fun d => d.parameters.length) = some 4 := by decide +kernel
theorem d_Ref_ends_0 : decode b_Ref_ends 0 = .ok (.lconst 1, 1) := by decide +kernel
theorem d_Ref_ends_1 : decode b_Ref_ends 1 = .ok (.iload_n 3, 1) := by decide +kernel
theorem d_Ref_ends_2 : decode b_Ref_ends 2 = .ok (.lshl, 1) := by decide +kernel
theorem d_Ref_ends_3 : decode b_Ref_ends 3 = .ok (.lstore 5, 2) := by decide +kernel
theorem d_Ref_ends_5 : decode b_Ref_ends 5 = .ok (.iload_n 2, 1) := by decide +kernel
theorem d_Ref_ends_6 : decode b_Ref_ends 6 = .ok (.istore 7, 2) := by decide +kernel
theorem d_Ref_ends_8 : decode b_Ref_ends 8 = .ok (.iload 7, 2) := by decide +kernel
theorem d_Ref_ends_10 : decode b_Ref_ends 10 = .ok (.aload_n 0, 1) := by decide +kernel
theorem d_Ref_ends_11 : decode b_Ref_ends 11 = .ok (.iload_n 1, 1) := by decide +kernel
theorem d_Ref_ends_12 : decode b_Ref_ends 12 = .ok (.invokevirtual 110, 3) := by decide +kernel
theorem d_Ref_ends_15 : decode b_Ref_ends 15 = .ok (.if_icmp .ge 165, 3) := by decide +kernel
theorem d_Ref_ends_18 : decode b_Ref_ends 18 = .ok (.lload 5, 2) := by decide +kernel
theorem d_Ref_ends_20 : decode b_Ref_ends 20 = .ok (.lconst 0, 1) := by decide +kernel
theorem d_Ref_ends_21 : decode b_Ref_ends 21 = .ok (.lcmp, 1) := by decide +kernel
theorem d_Ref_ends_22 : decode b_Ref_ends 22 = .ok (.ifCond .eq 158, 3) := by decide +kernel
theorem d_Ref_ends_25 : decode b_Ref_ends 25 = .ok (.aload_n 0, 1) := by decide +kernel
theorem d_Ref_ends_26 : decode b_Ref_ends 26 = .ok (.getfield 22, 3) := by decide +kernel
theorem d_Ref_ends_29 : decode b_Ref_ends 29 = .ok (.aload_n 0, 1) := by decide +kernel
theorem d_Ref_ends_30 : decode b_Ref_ends 30 = .ok (.getfield 19, 3) := by decide +kernel
theorem d_Ref_ends_33 : decode b_Ref_ends 33 = .ok (.iload_n 1, 1) := by decide +kernel
theorem d_Ref_ends_34 : decode b_Ref_ends 34 = .ok (.iaload, 1) := by decide +kernel
theorem d_Ref_ends_35 : decode b_Ref_ends 35 = .ok (.iload 7, 2) := by decide +kernel
theorem d_Ref_ends_37 : decode b_Ref_ends 37 = .ok (.iadd, 1) := by decide +kernel
theorem d_Ref_ends_38 : decode b_Ref_ends 38 = .ok (.iaload, 1) := by decide +kernel
theorem d_Ref_ends_39 : decode b_Ref_ends 39 = .ok (.istore 8, 2) := by decide +kernel
theorem d_Ref_ends_41 : decode b_Ref_ends 41 = .ok (.lconst 0, 1) := by decide +kernel
theorem d_Ref_ends_42 : decode b_Ref_ends 42 = .ok (.lstore 9, 2) := by decide +kernel
theorem d_Ref_ends_44 : decode b_Ref_ends 44 = .ok (.iload_n 3, 1) := by decide +kernel
theorem d_Ref_ends_45 : decode b_Ref_ends 45 = .ok (.istore 11, 2) := by decide +kernel
theorem d_Ref_ends_47 : decode b_Ref_ends 47 = .ok (.iload 11, 2) := by decide +kernel
theorem d_Ref_ends_49 : decode b_Ref_ends 49 = .ok (.iload 4, 2) := by decide +kernel
theorem d_Ref_ends_51 : decode b_Ref_ends 51 = .ok (.if_icmp .ge 119, 3) := by decide +kernel
theorem d_Ref_ends_54 : decode b_Ref_ends 54 = .ok (.lload 5, 2) := by decide +kernel
theorem d_Ref_ends_56 : decode b_Ref_ends 56 = .ok (.iload 11, 2) := by decide +kernel
theorem d_Ref_ends_58 : decode b_Ref_ends 58 = .ok (.lshr, 1) := by decide +kernel
theorem d_Ref_ends_59 : decode b_Ref_ends 59 = .ok (.lconst 1, 1) := by decide +kernel
theorem d_Ref_ends_60 : decode b_Ref_ends 60 = .ok (.land, 1) := by decide +kernel
theorem d_Ref_ends_61 : decode b_Ref_ends 61 = .ok (.lconst 1, 1) := by decide +kernel
theorem d_Ref_ends_62 : decode b_Ref_ends 62 = .ok (.lcmp, 1) := by decide +kernel
theorem d_Ref_ends_63 : decode b_Ref_ends 63 = .ok (.ifCond .ne 101, 3) := by decide +kernel
theorem d_Ref_ends_66 : decode b_Ref_ends 66 = .ok (.iload 11, 2) := by decide +kernel
theorem d_Ref_ends_68 : decode b_Ref_ends 68 = .ok (.iconst 1, 1) := by decide +kernel
theorem d_Ref_ends_69 : decode b_Ref_ends 69 = .ok (.iadd, 1) := by decide +kernel
theorem d_Ref_ends_70 : decode b_Ref_ends 70 = .ok (.istore 12, 2) := by decide +kernel
theorem d_Ref_ends_72 : decode b_Ref_ends 72 = .ok (.iload 12, 2) := by decide +kernel
theorem d_Ref_ends_74 : decode b_Ref_ends 74 = .ok (.iload 4, 2) := by decide +kernel
theorem d_Ref_ends_76 : decode b_Ref_ends 76 = .ok (.if_icmp .gt 88, 3) := by decide +kernel
theorem d_Ref_ends_79 : decode b_Ref_ends 79 = .ok (.aload_n 0, 1) := by decide +kernel
theorem d_Ref_ends_80 : decode b_Ref_ends 80 = .ok (.getfield 7, 3) := by decide +kernel
theorem d_Ref_ends_83 : decode b_Ref_ends 83 = .ok (.iload 8, 2) := by decide +kernel
theorem d_Ref_ends_85 : decode b_Ref_ends 85 = .ok (.iaload, 1) := by decide +kernel
theorem d_Ref_ends_86 : decode b_Ref_ends 86 = .ok (.iconst (-1), 1) := by decide +kernel
theorem d_Ref_ends_87 : decode b_Ref_ends 87 = .ok (.if_icmp .ne 32, 3) := by decide +kernel
theorem d_Ref_ends_90 : decode b_Ref_ends 90 = .ok (.iload 12, 2) := by decide +kernel
theorem d_Ref_ends_92 : decode b_Ref_ends 92 = .ok (.iload 11, 2) := by decide +kernel
theorem d_Ref_ends_94 : decode b_Ref_ends 94 = .ok (.iconst 1, 1) := by decide +kernel
theorem d_Ref_ends_95 : decode b_Ref_ends 95 = .ok (.iadd, 1) := by decide +kernel
theorem d_Ref_ends_96 : decode b_Ref_ends 96 = .ok (.if_icmp .ne 19, 3) := by decide +kernel
theorem d_Ref_ends_99 : decode b_Ref_ends 99 = .ok (.aload_n 0, 1) := by decide +kernel
theorem d_Ref_ends_100 : decode b_Ref_ends 100 = .ok (.getfield 25, 3) := by decide +kernel
theorem d_Ref_ends_103 : decode b_Ref_ends 103 = .ok (.iload 11, 2) := by decide +kernel
theorem d_Ref_ends_105 : decode b_Ref_ends 105 = .ok (.iaload, 1) := by decide +kernel
theorem d_Ref_ends_106 : decode b_Ref_ends 106 = .ok (.iload 8, 2) := by decide +kernel
theorem d_Ref_ends_108 : decode b_Ref_ends 108 = .ok (.if_icmp .ne 7, 3) := by decide +kernel
theorem d_Ref_ends_111 : decode b_Ref_ends 111 = .ok (.iconst 1, 1) := by decide +kernel
theorem d_Ref_ends_112 : decode b_Ref_ends 112 = .ok (.goto 25, 3) := by decide +kernel
theorem d_Ref_ends_115 : decode b_Ref_ends 115 = .ok (.iconst 0, 1) := by decide +kernel
theorem d_Ref_ends_116 : decode b_Ref_ends 116 = .ok (.goto 21, 3) := by decide +kernel
theorem d_Ref_ends_119 : decode b_Ref_ends 119 = .ok (.aload_n 0, 1) := by decide +kernel
theorem d_Ref_ends_120 : decode b_Ref_ends 120 = .ok (.iload 8, 2) := by decide +kernel
theorem d_Ref_ends_122 : decode b_Ref_ends 122 = .ok (.iload 11, 2) := by decide +kernel
theorem d_Ref_ends_124 : decode b_Ref_ends 124 = .ok (.iload 12, 2) := by decide +kernel
theorem d_Ref_ends_126 : decode b_Ref_ends 126 = .ok (.invokevirtual 128, 3) := by decide +kernel
theorem d_Ref_ends_129 : decode b_Ref_ends 129 = .ok (.ifCond .le 7, 3) := by decide +kernel
theorem d_Ref_ends_132 : decode b_Ref_ends 132 = .ok (.iconst 1, 1) := by decide +kernel
theorem d_Ref_ends_133 : decode b_Ref_ends 133 = .ok (.goto 4, 3) := by decide +kernel
theorem d_Ref_ends_136 : decode b_Ref_ends 136 = .ok (.iconst 0, 1) := by decide +kernel
theorem d_Ref_ends_137 : decode b_Ref_ends 137 = .ok (.istore 13, 2) := by decide +kernel
theorem d_Ref_ends_139 : decode b_Ref_ends 139 = .ok (.iload 13, 2) := by decide +kernel
theorem d_Ref_ends_141 : decode b_Ref_ends 141 = .ok (.ifCond .eq 13, 3) := by decide +kernel
theorem d_Ref_ends_144 : decode b_Ref_ends 144 = .ok (.lload 9, 2) := by decide +kernel
theorem d_Ref_ends_146 : decode b_Ref_ends 146 = .ok (.lconst 1, 1) := by decide +kernel
theorem d_Ref_ends_147 : decode b_Ref_ends 147 = .ok (.iload 12, 2) := by decide +kernel
theorem d_Ref_ends_149 : decode b_Ref_ends 149 = .ok (.lshl, 1) := by decide +kernel
theorem d_Ref_ends_150 : decode b_Ref_ends 150 = .ok (.lor, 1) := by decide +kernel
theorem d_Ref_ends_151 : decode b_Ref_ends 151 = .ok (.goto 5, 3) := by decide +kernel
theorem d_Ref_ends_154 : decode b_Ref_ends 154 = .ok (.lload 9, 2) := by decide +kernel
theorem d_Ref_ends_156 : decode b_Ref_ends 156 = .ok (.lstore 9, 2) := by decide +kernel
theorem d_Ref_ends_158 : decode b_Ref_ends 158 = .ok (.iinc 12 1, 3) := by decide +kernel
theorem d_Ref_ends_161 : decode b_Ref_ends 161 = .ok (.goto (-89), 3) := by decide +kernel
theorem d_Ref_ends_164 : decode b_Ref_ends 164 = .ok (.iinc 11 1, 3) := by decide +kernel
theorem d_Ref_ends_167 : decode b_Ref_ends 167 = .ok (.goto (-120), 3) := by decide +kernel
theorem d_Ref_ends_170 : decode b_Ref_ends 170 = .ok (.lload 9, 2) := by decide +kernel
theorem d_Ref_ends_172 : decode b_Ref_ends 172 = .ok (.lstore 5, 2) := by decide +kernel
theorem d_Ref_ends_174 : decode b_Ref_ends 174 = .ok (.iinc 7 1, 3) := by decide +kernel
theorem d_Ref_ends_177 : decode b_Ref_ends 177 = .ok (.goto (-169), 3) := by decide +kernel
theorem d_Ref_ends_180 : decode b_Ref_ends 180 = .ok (.lload 5, 2) := by decide +kernel
theorem d_Ref_ends_182 : decode b_Ref_ends 182 = .ok (.iload 4, 2) := by decide +kernel
theorem d_Ref_ends_184 : decode b_Ref_ends 184 = .ok (.lshr, 1) := by decide +kernel
theorem d_Ref_ends_185 : decode b_Ref_ends 185 = .ok (.lconst 1, 1) := by decide +kernel
theorem d_Ref_ends_186 : decode b_Ref_ends 186 = .ok (.land, 1) := by decide +kernel
theorem d_Ref_ends_187 : decode b_Ref_ends 187 = .ok (.lconst 1, 1) := by decide +kernel
theorem d_Ref_ends_188 : decode b_Ref_ends 188 = .ok (.lcmp, 1) := by decide +kernel
theorem d_Ref_ends_189 : decode b_Ref_ends 189 = .ok (.ifCond .ne 7, 3) := by decide +kernel
theorem d_Ref_ends_192 : decode b_Ref_ends 192 = .ok (.iconst 1, 1) := by decide +kernel
theorem d_Ref_ends_193 : decode b_Ref_ends 193 = .ok (.goto 4, 3) := by decide +kernel
theorem d_Ref_ends_196 : decode b_Ref_ends 196 = .ok (.iconst 0, 1) := by decide +kernel
theorem d_Ref_ends_197 : decode b_Ref_ends 197 = .ok (.ireturn, 1) := by decide +kernel
abbrev b_Ref_tell : ByteArray := prog_8_method_25_code
def y_Ref_tell : MethodName := ⟨"SyntaxTreesModel", "tell", "()V"⟩
def w_Ref_tell : List Cond := .code y_Ref_tell b_Ref_tell 4 none :: TBL
theorem hd_Ref_tell : y_Ref_tell.cls = "SyntaxTreesModel" ∧ y_Ref_tell.cls ≠ "java/lang/invoke/MethodHandle" ∧ y_Ref_tell.cls ≠ "java/lang/invoke/VarHandle" ∧ (parseMethodDescriptor y_Ref_tell.desc).map (fun d => d.parameters.length) = some 0 := by decide +kernel
theorem d_Ref_tell_0 : decode b_Ref_tell 0 = .ok (.iconst 0, 1) := by decide +kernel
theorem d_Ref_tell_1 : decode b_Ref_tell 1 = .ok (.istore_n 1, 1) := by decide +kernel
theorem d_Ref_tell_2 : decode b_Ref_tell 2 = .ok (.iconst 0, 1) := by decide +kernel
theorem d_Ref_tell_3 : decode b_Ref_tell 3 = .ok (.istore_n 2, 1) := by decide +kernel
theorem d_Ref_tell_4 : decode b_Ref_tell 4 = .ok (.aload_n 0, 1) := by decide +kernel
theorem d_Ref_tell_5 : decode b_Ref_tell 5 = .ok (.getfield 64, 3) := by decide +kernel
theorem d_Ref_tell_8 : decode b_Ref_tell 8 = .ok (.iload_n 2, 1) := by decide +kernel
theorem d_Ref_tell_9 : decode b_Ref_tell 9 = .ok (.iconst 0, 1) := by decide +kernel
theorem d_Ref_tell_10 : decode b_Ref_tell 10 = .ok (.iastore, 1) := by decide +kernel
theorem d_Ref_tell_11 : decode b_Ref_tell 11 = .ok (.aload_n 0, 1) := by decide +kernel
theorem d_Ref_tell_12 : decode b_Ref_tell 12 = .ok (.getfield 67, 3) := by decide +kernel
theorem d_Ref_tell_15 : decode b_Ref_tell 15 = .ok (.iload_n 2, 1) := by decide +kernel
theorem d_Ref_tell_16 : decode b_Ref_tell 16 = .ok (.iconst 0, 1) := by decide +kernel
theorem d_Ref_tell_17 : decode b_Ref_tell 17 = .ok (.iastore, 1) := by decide +kernel
theorem d_Ref_tell_18 : decode b_Ref_tell 18 = .ok (.iinc 2 1, 3) := by decide +kernel
theorem d_Ref_tell_21 : decode b_Ref_tell 21 = .ok (.iload_n 2, 1) := by decide +kernel
theorem d_Ref_tell_22 : decode b_Ref_tell 22 = .ok (.ifCond .le 91, 3) := by decide +kernel
theorem d_Ref_tell_25 : decode b_Ref_tell 25 = .ok (.aload_n 0, 1) := by decide +kernel
theorem d_Ref_tell_26 : decode b_Ref_tell 26 = .ok (.getfield 64, 3) := by decide +kernel
theorem d_Ref_tell_29 : decode b_Ref_tell 29 = .ok (.iload_n 2, 1) := by decide +kernel
theorem d_Ref_tell_30 : decode b_Ref_tell 30 = .ok (.iconst 1, 1) := by decide +kernel
theorem d_Ref_tell_31 : decode b_Ref_tell 31 = .ok (.isub, 1) := by decide +kernel
theorem d_Ref_tell_32 : decode b_Ref_tell 32 = .ok (.iaload, 1) := by decide +kernel
theorem d_Ref_tell_33 : decode b_Ref_tell 33 = .ok (.istore_n 3, 1) := by decide +kernel
theorem d_Ref_tell_34 : decode b_Ref_tell 34 = .ok (.aload_n 0, 1) := by decide +kernel
theorem d_Ref_tell_35 : decode b_Ref_tell 35 = .ok (.getfield 67, 3) := by decide +kernel
theorem d_Ref_tell_38 : decode b_Ref_tell 38 = .ok (.iload_n 2, 1) := by decide +kernel
theorem d_Ref_tell_39 : decode b_Ref_tell 39 = .ok (.iconst 1, 1) := by decide +kernel
theorem d_Ref_tell_40 : decode b_Ref_tell 40 = .ok (.isub, 1) := by decide +kernel
theorem d_Ref_tell_41 : decode b_Ref_tell 41 = .ok (.iaload, 1) := by decide +kernel
theorem d_Ref_tell_42 : decode b_Ref_tell 42 = .ok (.aload_n 0, 1) := by decide +kernel
theorem d_Ref_tell_43 : decode b_Ref_tell 43 = .ok (.getfield 55, 3) := by decide +kernel
theorem d_Ref_tell_46 : decode b_Ref_tell 46 = .ok (.iload_n 3, 1) := by decide +kernel
theorem d_Ref_tell_47 : decode b_Ref_tell 47 = .ok (.iaload, 1) := by decide +kernel
theorem d_Ref_tell_48 : decode b_Ref_tell 48 = .ok (.if_icmp .ge 49, 3) := by decide +kernel
theorem d_Ref_tell_51 : decode b_Ref_tell 51 = .ok (.aload_n 0, 1) := by decide +kernel
theorem d_Ref_tell_52 : decode b_Ref_tell 52 = .ok (.getfield 64, 3) := by decide +kernel
theorem d_Ref_tell_55 : decode b_Ref_tell 55 = .ok (.iload_n 2, 1) := by decide +kernel
theorem d_Ref_tell_56 : decode b_Ref_tell 56 = .ok (.aload_n 0, 1) := by decide +kernel
theorem d_Ref_tell_57 : decode b_Ref_tell 57 = .ok (.getfield 52, 3) := by decide +kernel
theorem d_Ref_tell_60 : decode b_Ref_tell 60 = .ok (.iload_n 3, 1) := by decide +kernel
theorem d_Ref_tell_61 : decode b_Ref_tell 61 = .ok (.iaload, 1) := by decide +kernel
theorem d_Ref_tell_62 : decode b_Ref_tell 62 = .ok (.aload_n 0, 1) := by decide +kernel
theorem d_Ref_tell_63 : decode b_Ref_tell 63 = .ok (.getfield 67, 3) := by decide +kernel
theorem d_Ref_tell_66 : decode b_Ref_tell 66 = .ok (.iload_n 2, 1) := by decide +kernel
theorem d_Ref_tell_67 : decode b_Ref_tell 67 = .ok (.iconst 1, 1) := by decide +kernel
theorem d_Ref_tell_68 : decode b_Ref_tell 68 = .ok (.isub, 1) := by decide +kernel
theorem d_Ref_tell_69 : decode b_Ref_tell 69 = .ok (.iaload, 1) := by decide +kernel
theorem d_Ref_tell_70 : decode b_Ref_tell 70 = .ok (.iadd, 1) := by decide +kernel
theorem d_Ref_tell_71 : decode b_Ref_tell 71 = .ok (.iastore, 1) := by decide +kernel
theorem d_Ref_tell_72 : decode b_Ref_tell 72 = .ok (.aload_n 0, 1) := by decide +kernel
theorem d_Ref_tell_73 : decode b_Ref_tell 73 = .ok (.getfield 67, 3) := by decide +kernel
theorem d_Ref_tell_76 : decode b_Ref_tell 76 = .ok (.iload_n 2, 1) := by decide +kernel
theorem d_Ref_tell_77 : decode b_Ref_tell 77 = .ok (.iconst 1, 1) := by decide +kernel
theorem d_Ref_tell_78 : decode b_Ref_tell 78 = .ok (.isub, 1) := by decide +kernel
theorem d_Ref_tell_79 : decode b_Ref_tell 79 = .ok (.dup2, 1) := by decide +kernel
theorem d_Ref_tell_80 : decode b_Ref_tell 80 = .ok (.iaload, 1) := by decide +kernel
theorem d_Ref_tell_81 : decode b_Ref_tell 81 = .ok (.iconst 1, 1) := by decide +kernel
theorem d_Ref_tell_82 : decode b_Ref_tell 82 = .ok (.iadd, 1) := by decide +kernel
theorem d_Ref_tell_83 : decode b_Ref_tell 83 = .ok (.iastore, 1) := by decide +kernel
theorem d_Ref_tell_84 : decode b_Ref_tell 84 = .ok (.aload_n 0, 1) := by decide +kernel
theorem d_Ref_tell_85 : decode b_Ref_tell 85 = .ok (.getfield 67, 3) := by decide +kernel
theorem d_Ref_tell_88 : decode b_Ref_tell 88 = .ok (.iload_n 2, 1) := by decide +kernel
theorem d_Ref_tell_89 : decode b_Ref_tell 89 = .ok (.iconst 0, 1) := by decide +kernel
theorem d_Ref_tell_90 : decode b_Ref_tell 90 = .ok (.iastore, 1) := by decide +kernel
theorem d_Ref_tell_91 : decode b_Ref_tell 91 = .ok (.iinc 2 1, 3) := by decide +kernel
theorem d_Ref_tell_94 : decode b_Ref_tell 94 = .ok (.goto 16, 3) := by decide +kernel
theorem d_Ref_tell_97 : decode b_Ref_tell 97 = .ok (.aload_n 0, 1) := by decide +kernel
theorem d_Ref_tell_98 : decode b_Ref_tell 98 = .ok (.getfield 61, 3) := by decide +kernel
theorem d_Ref_tell_101 : decode b_Ref_tell 101 = .ok (.iload_n 1, 1) := by decide +kernel
theorem d_Ref_tell_102 : decode b_Ref_tell 102 = .ok (.iload_n 3, 1) := by decide +kernel
theorem d_Ref_tell_103 : decode b_Ref_tell 103 = .ok (.iastore, 1) := by decide +kernel
theorem d_Ref_tell_104 : decode b_Ref_tell 104 = .ok (.iinc 1 1, 3) := by decide +kernel
theorem d_Ref_tell_107 : decode b_Ref_tell 107 = .ok (.iinc 2 (-1), 3) := by decide +kernel
theorem d_Ref_tell_110 : decode b_Ref_tell 110 = .ok (.goto (-89), 3) := by decide +kernel
theorem d_Ref_tell_113 : decode b_Ref_tell 113 = .ok (.return_, 1) := by decide +kernel
abbrev b_Ref_node : ByteArray := prog_8_method_26_code
def y_Ref_node : MethodName := ⟨"SyntaxTreesModel", "node", "(II)I"⟩
def w_Ref_node : List Cond := .code y_Ref_node b_Ref_node 3 (some .int) :: TBL
theorem hd_Ref_node : y_Ref_node.cls = "SyntaxTreesModel" ∧ y_Ref_node.cls ≠ "java/lang/invoke/MethodHandle" ∧ y_Ref_node.cls ≠ "java/lang/invoke/VarHandle" ∧ (parseMethodDescriptor y_Ref_node.desc).map (fun d => d.parameters.length) = some 2 := by decide +kernel
theorem d_Ref_node_0 : decode b_Ref_node 0 = .ok (.iload_n 1, 1) := by decide +kernel
theorem d_Ref_node_1 : decode b_Ref_node 1 = .ok (.ifCond .lt 11, 3) := by decide +kernel
theorem d_Ref_node_4 : decode b_Ref_node 4 = .ok (.iload_n 1, 1) := by decide +kernel
theorem d_Ref_node_5 : decode b_Ref_node 5 = .ok (.aload_n 0, 1) := by decide +kernel
theorem d_Ref_node_6 : decode b_Ref_node 6 = .ok (.getfield 143, 3) := by decide +kernel
theorem d_Ref_node_9 : decode b_Ref_node 9 = .ok (.if_icmp .lt 5, 3) := by decide +kernel
theorem d_Ref_node_12 : decode b_Ref_node 12 = .ok (.iconst (-1), 1) := by decide +kernel
theorem d_Ref_node_13 : decode b_Ref_node 13 = .ok (.ireturn, 1) := by decide +kernel
theorem d_Ref_node_14 : decode b_Ref_node 14 = .ok (.iload_n 2, 1) := by decide +kernel
theorem d_Ref_node_15 : decode b_Ref_node 15 = .ok (.tableswitch 79 0 5 #[37, 44, 51, 58, 65, 72], 37) := by decide +kernel
theorem d_Ref_node_52 : decode b_Ref_node 52 = .ok (.aload_n 0, 1) := by decide +kernel
theorem d_Ref_node_53 : decode b_Ref_node 53 = .ok (.getfield 40, 3) := by decide +kernel
theorem d_Ref_node_56 : decode b_Ref_node 56 = .ok (.iload_n 1, 1) := by decide +kernel
theorem d_Ref_node_57 : decode b_Ref_node 57 = .ok (.iaload, 1) := by decide +kernel
theorem d_Ref_node_58 : decode b_Ref_node 58 = .ok (.ireturn, 1) := by decide +kernel
theorem d_Ref_node_59 : decode b_Ref_node 59 = .ok (.aload_n 0, 1) := by decide +kernel
theorem d_Ref_node_60 : decode b_Ref_node 60 = .ok (.getfield 43, 3) := by decide +kernel
theorem d_Ref_node_63 : decode b_Ref_node 63 = .ok (.iload_n 1, 1) := by decide +kernel
theorem d_Ref_node_64 : decode b_Ref_node 64 = .ok (.iaload, 1) := by decide +kernel
theorem d_Ref_node_65 : decode b_Ref_node 65 = .ok (.ireturn, 1) := by decide +kernel
theorem d_Ref_node_66 : decode b_Ref_node 66 = .ok (.aload_n 0, 1) := by decide +kernel
theorem d_Ref_node_67 : decode b_Ref_node 67 = .ok (.getfield 46, 3) := by decide +kernel
theorem d_Ref_node_70 : decode b_Ref_node 70 = .ok (.iload_n 1, 1) := by decide +kernel
theorem d_Ref_node_71 : decode b_Ref_node 71 = .ok (.iaload, 1) := by decide +kernel
theorem d_Ref_node_72 : decode b_Ref_node 72 = .ok (.ireturn, 1) := by decide +kernel
theorem d_Ref_node_73 : decode b_Ref_node 73 = .ok (.aload_n 0, 1) := by decide +kernel
theorem d_Ref_node_74 : decode b_Ref_node 74 = .ok (.getfield 49, 3) := by decide +kernel
theorem d_Ref_node_77 : decode b_Ref_node 77 = .ok (.iload_n 1, 1) := by decide +kernel
theorem d_Ref_node_78 : decode b_Ref_node 78 = .ok (.iaload, 1) := by decide +kernel
theorem d_Ref_node_79 : decode b_Ref_node 79 = .ok (.ireturn, 1) := by decide +kernel
theorem d_Ref_node_80 : decode b_Ref_node 80 = .ok (.aload_n 0, 1) := by decide +kernel
theorem d_Ref_node_81 : decode b_Ref_node 81 = .ok (.getfield 52, 3) := by decide +kernel
theorem d_Ref_node_84 : decode b_Ref_node 84 = .ok (.iload_n 1, 1) := by decide +kernel
theorem d_Ref_node_85 : decode b_Ref_node 85 = .ok (.iaload, 1) := by decide +kernel
theorem d_Ref_node_86 : decode b_Ref_node 86 = .ok (.ireturn, 1) := by decide +kernel
theorem d_Ref_node_87 : decode b_Ref_node 87 = .ok (.aload_n 0, 1) := by decide +kernel
theorem d_Ref_node_88 : decode b_Ref_node 88 = .ok (.getfield 55, 3) := by decide +kernel
theorem d_Ref_node_91 : decode b_Ref_node 91 = .ok (.iload_n 1, 1) := by decide +kernel
theorem d_Ref_node_92 : decode b_Ref_node 92 = .ok (.iaload, 1) := by decide +kernel
theorem d_Ref_node_93 : decode b_Ref_node 93 = .ok (.ireturn, 1) := by decide +kernel
theorem d_Ref_node_94 : decode b_Ref_node 94 = .ok (.iconst (-1), 1) := by decide +kernel
theorem d_Ref_node_95 : decode b_Ref_node 95 = .ok (.ireturn, 1) := by decide +kernel
abbrev b_Ref_told : ByteArray := prog_8_method_27_code
def y_Ref_told : MethodName := ⟨"SyntaxTreesModel", "told", "(I)I"⟩
def w_Ref_told : List Cond := .code y_Ref_told b_Ref_told 3 (some .int) :: TBL
theorem hd_Ref_told : y_Ref_told.cls = "SyntaxTreesModel" ∧ y_Ref_told.cls ≠ "java/lang/invoke/MethodHandle" ∧ y_Ref_told.cls ≠ "java/lang/invoke/VarHandle" ∧ (parseMethodDescriptor y_Ref_told.desc).map (fun d => d.parameters.length) = some 1 := by decide +kernel
theorem d_Ref_told_0 : decode b_Ref_told 0 = .ok (.iload_n 1, 1) := by decide +kernel
theorem d_Ref_told_1 : decode b_Ref_told 1 = .ok (.ifCond .lt 11, 3) := by decide +kernel
theorem d_Ref_told_4 : decode b_Ref_told 4 = .ok (.iload_n 1, 1) := by decide +kernel
theorem d_Ref_told_5 : decode b_Ref_told 5 = .ok (.aload_n 0, 1) := by decide +kernel
theorem d_Ref_told_6 : decode b_Ref_told 6 = .ok (.getfield 143, 3) := by decide +kernel
theorem d_Ref_told_9 : decode b_Ref_told 9 = .ok (.if_icmp .lt 5, 3) := by decide +kernel
theorem d_Ref_told_12 : decode b_Ref_told 12 = .ok (.iconst (-1), 1) := by decide +kernel
theorem d_Ref_told_13 : decode b_Ref_told 13 = .ok (.ireturn, 1) := by decide +kernel
theorem d_Ref_told_14 : decode b_Ref_told 14 = .ok (.aload_n 0, 1) := by decide +kernel
theorem d_Ref_told_15 : decode b_Ref_told 15 = .ok (.getfield 61, 3) := by decide +kernel
theorem d_Ref_told_18 : decode b_Ref_told 18 = .ok (.iload_n 1, 1) := by decide +kernel
theorem d_Ref_told_19 : decode b_Ref_told 19 = .ok (.iaload, 1) := by decide +kernel
theorem d_Ref_told_20 : decode b_Ref_told 20 = .ok (.istore_n 2, 1) := by decide +kernel
theorem d_Ref_told_21 : decode b_Ref_told 21 = .ok (.aload_n 0, 1) := by decide +kernel
theorem d_Ref_told_22 : decode b_Ref_told 22 = .ok (.getfield 40, 3) := by decide +kernel
theorem d_Ref_told_25 : decode b_Ref_told 25 = .ok (.iload_n 2, 1) := by decide +kernel
theorem d_Ref_told_26 : decode b_Ref_told 26 = .ok (.iaload, 1) := by decide +kernel
theorem d_Ref_told_27 : decode b_Ref_told 27 = .ok (.iconst (-1), 1) := by decide +kernel
theorem d_Ref_told_28 : decode b_Ref_told 28 = .ok (.if_icmp .ne 15, 3) := by decide +kernel
theorem d_Ref_told_31 : decode b_Ref_told 31 = .ok (.bipush (-2), 2) := by decide +kernel
theorem d_Ref_told_33 : decode b_Ref_told 33 = .ok (.aload_n 0, 1) := by decide +kernel
theorem d_Ref_told_34 : decode b_Ref_told 34 = .ok (.getfield 58, 3) := by decide +kernel
theorem d_Ref_told_37 : decode b_Ref_told 37 = .ok (.iload_n 2, 1) := by decide +kernel
theorem d_Ref_told_38 : decode b_Ref_told 38 = .ok (.iaload, 1) := by decide +kernel
theorem d_Ref_told_39 : decode b_Ref_told 39 = .ok (.isub, 1) := by decide +kernel
theorem d_Ref_told_40 : decode b_Ref_told 40 = .ok (.goto 9, 3) := by decide +kernel
theorem d_Ref_told_43 : decode b_Ref_told 43 = .ok (.aload_n 0, 1) := by decide +kernel
theorem d_Ref_told_44 : decode b_Ref_told 44 = .ok (.getfield 40, 3) := by decide +kernel
theorem d_Ref_told_47 : decode b_Ref_told 47 = .ok (.iload_n 2, 1) := by decide +kernel
theorem d_Ref_told_48 : decode b_Ref_told 48 = .ok (.iaload, 1) := by decide +kernel
theorem d_Ref_told_49 : decode b_Ref_told 49 = .ok (.ireturn, 1) := by decide +kernel
abbrev b_Ref_count : ByteArray := prog_8_method_28_code
def y_Ref_count : MethodName := ⟨"SyntaxTreesModel", "count", "(I)I"⟩
def w_Ref_count : List Cond := .code y_Ref_count b_Ref_count 2 (some .int) :: TBL
theorem hd_Ref_count : y_Ref_count.cls = "SyntaxTreesModel" ∧ y_Ref_count.cls ≠ "java/lang/invoke/MethodHandle" ∧ y_Ref_count.cls ≠ "java/lang/invoke/VarHandle" ∧ (parseMethodDescriptor y_Ref_count.desc).map (fun d => d.parameters.length) = some 1 := by decide +kernel
theorem d_Ref_count_0 : decode b_Ref_count 0 = .ok (.iload_n 1, 1) := by decide +kernel
theorem d_Ref_count_1 : decode b_Ref_count 1 = .ok (.tableswitch 69 0 5 #[39, 44, 49, 54, 59, 64], 39) := by decide +kernel
theorem d_Ref_count_40 : decode b_Ref_count 40 = .ok (.aload_n 0, 1) := by decide +kernel
theorem d_Ref_count_41 : decode b_Ref_count 41 = .ok (.getfield 70, 3) := by decide +kernel
theorem d_Ref_count_44 : decode b_Ref_count 44 = .ok (.ireturn, 1) := by decide +kernel
theorem d_Ref_count_45 : decode b_Ref_count 45 = .ok (.aload_n 0, 1) := by decide +kernel
theorem d_Ref_count_46 : decode b_Ref_count 46 = .ok (.getfield 81, 3) := by decide +kernel
theorem d_Ref_count_49 : decode b_Ref_count 49 = .ok (.ireturn, 1) := by decide +kernel
theorem d_Ref_count_50 : decode b_Ref_count 50 = .ok (.aload_n 0, 1) := by decide +kernel
theorem d_Ref_count_51 : decode b_Ref_count 51 = .ok (.getfield 98, 3) := by decide +kernel
theorem d_Ref_count_54 : decode b_Ref_count 54 = .ok (.ireturn, 1) := by decide +kernel
theorem d_Ref_count_55 : decode b_Ref_count 55 = .ok (.aload_n 0, 1) := by decide +kernel
theorem d_Ref_count_56 : decode b_Ref_count 56 = .ok (.getfield 101, 3) := by decide +kernel
theorem d_Ref_count_59 : decode b_Ref_count 59 = .ok (.ireturn, 1) := by decide +kernel
theorem d_Ref_count_60 : decode b_Ref_count 60 = .ok (.aload_n 0, 1) := by decide +kernel
theorem d_Ref_count_61 : decode b_Ref_count 61 = .ok (.getfield 104, 3) := by decide +kernel
theorem d_Ref_count_64 : decode b_Ref_count 64 = .ok (.ireturn, 1) := by decide +kernel
theorem d_Ref_count_65 : decode b_Ref_count 65 = .ok (.aload_n 0, 1) := by decide +kernel
theorem d_Ref_count_66 : decode b_Ref_count 66 = .ok (.getfield 143, 3) := by decide +kernel
theorem d_Ref_count_69 : decode b_Ref_count 69 = .ok (.ireturn, 1) := by decide +kernel
theorem d_Ref_count_70 : decode b_Ref_count 70 = .ok (.iconst (-1), 1) := by decide +kernel
theorem d_Ref_count_71 : decode b_Ref_count 71 = .ok (.ireturn, 1) := by decide +kernel
abbrev b_Ref_check : ByteArray := prog_8_method_29_code
def y_Ref_check : MethodName := ⟨"SyntaxTreesModel", "check", "()I"⟩
def w_Ref_check : List Cond := .code y_Ref_check b_Ref_check 1 (some .int) :: TBL
theorem hd_Ref_check : y_Ref_check.cls = "SyntaxTreesModel" ∧ y_Ref_check.cls ≠ "java/lang/invoke/MethodHandle" ∧ y_Ref_check.cls ≠ "java/lang/invoke/VarHandle" ∧ (parseMethodDescriptor y_Ref_check.desc).map (fun d => d.parameters.length) = some 0 := by decide +kernel
theorem d_Ref_check_0 : decode b_Ref_check 0 = .ok (.iconst 1, 1) := by decide +kernel
theorem d_Ref_check_1 : decode b_Ref_check 1 = .ok (.ireturn, 1) := by decide +kernel
abbrev b_Ref_stretch : ByteArray := prog_8_method_16_code
def y_Ref_stretch : MethodName := ⟨"SyntaxTreesModel", "stretch", "(III)V"⟩
def w_Ref_stretch : List Cond := .code y_Ref_stretch b_Ref_stretch 9 none :: TBL
theorem hd_Ref_stretch : y_Ref_stretch.cls = "SyntaxTreesModel" ∧ y_Ref_stretch.cls ≠ "java/lang/invoke/MethodHandle" ∧ y_Ref_stretch.cls ≠ "java/lang/invoke/VarHandle" ∧ (parseMethodDescriptor y_Ref_stretch.desc).map (fun d => d.parameters.length) = some 3 := by decide +kernel
theorem d_Ref_stretch_0 : decode b_Ref_stretch 0 = .ok (.iconst 0, 1) := by decide +kernel
theorem d_Ref_stretch_1 : decode b_Ref_stretch 1 = .ok (.istore 4, 2) := by decide +kernel
theorem d_Ref_stretch_3 : decode b_Ref_stretch 3 = .ok (.iload 4, 2) := by decide +kernel
theorem d_Ref_stretch_5 : decode b_Ref_stretch 5 = .ok (.aload_n 0, 1) := by decide +kernel
theorem d_Ref_stretch_6 : decode b_Ref_stretch 6 = .ok (.getfield 81, 3) := by decide +kernel
theorem d_Ref_stretch_9 : decode b_Ref_stretch 9 = .ok (.if_icmp .ge 17, 3) := by decide +kernel
theorem d_Ref_stretch_12 : decode b_Ref_stretch 12 = .ok (.aload_n 0, 1) := by decide +kernel
theorem d_Ref_stretch_13 : decode b_Ref_stretch 13 = .ok (.getfield 37, 3) := by decide +kernel
theorem d_Ref_stretch_16 : decode b_Ref_stretch 16 = .ok (.iload 4, 2) := by decide +kernel
theorem d_Ref_stretch_18 : decode b_Ref_stretch 18 = .ok (.iconst 0, 1) := by decide +kernel
theorem d_Ref_stretch_19 : decode b_Ref_stretch 19 = .ok (.iastore, 1) := by decide +kernel
theorem d_Ref_stretch_20 : decode b_Ref_stretch 20 = .ok (.iinc 4 1, 3) := by decide +kernel
theorem d_Ref_stretch_23 : decode b_Ref_stretch 23 = .ok (.goto (-20), 3) := by decide +kernel
theorem d_Ref_stretch_26 : decode b_Ref_stretch 26 = .ok (.aload_n 0, 1) := by decide +kernel
theorem d_Ref_stretch_27 : decode b_Ref_stretch 27 = .ok (.getfield 25, 3) := by decide +kernel
theorem d_Ref_stretch_30 : decode b_Ref_stretch 30 = .ok (.iload_n 1, 1) := by decide +kernel
theorem d_Ref_stretch_31 : decode b_Ref_stretch 31 = .ok (.iaload, 1) := by decide +kernel
theorem d_Ref_stretch_32 : decode b_Ref_stretch 32 = .ok (.istore 4, 2) := by decide +kernel
theorem d_Ref_stretch_34 : decode b_Ref_stretch 34 = .ok (.iload_n 2, 1) := by decide +kernel
theorem d_Ref_stretch_35 : decode b_Ref_stretch 35 = .ok (.iload_n 1, 1) := by decide +kernel
theorem d_Ref_stretch_36 : decode b_Ref_stretch 36 = .ok (.iconst 1, 1) := by decide +kernel
theorem d_Ref_stretch_37 : decode b_Ref_stretch 37 = .ok (.iadd, 1) := by decide +kernel
theorem d_Ref_stretch_38 : decode b_Ref_stretch 38 = .ok (.if_icmp .ne 32, 3) := by decide +kernel
theorem d_Ref_stretch_41 : decode b_Ref_stretch 41 = .ok (.aload_n 0, 1) := by decide +kernel
theorem d_Ref_stretch_42 : decode b_Ref_stretch 42 = .ok (.getfield 7, 3) := by decide +kernel
theorem d_Ref_stretch_45 : decode b_Ref_stretch 45 = .ok (.iload 4, 2) := by decide +kernel
theorem d_Ref_stretch_47 : decode b_Ref_stretch 47 = .ok (.iaload, 1) := by decide +kernel
theorem d_Ref_stretch_48 : decode b_Ref_stretch 48 = .ok (.iconst (-1), 1) := by decide +kernel
theorem d_Ref_stretch_49 : decode b_Ref_stretch 49 = .ok (.if_icmp .eq 21, 3) := by decide +kernel
theorem d_Ref_stretch_52 : decode b_Ref_stretch 52 = .ok (.aload_n 0, 1) := by decide +kernel
theorem d_Ref_stretch_53 : decode b_Ref_stretch 53 = .ok (.getfield 37, 3) := by decide +kernel
theorem d_Ref_stretch_56 : decode b_Ref_stretch 56 = .ok (.aload_n 0, 1) := by decide +kernel
theorem d_Ref_stretch_57 : decode b_Ref_stretch 57 = .ok (.getfield 13, 3) := by decide +kernel
theorem d_Ref_stretch_60 : decode b_Ref_stretch 60 = .ok (.aload_n 0, 1) := by decide +kernel
theorem d_Ref_stretch_61 : decode b_Ref_stretch 61 = .ok (.getfield 7, 3) := by decide +kernel
theorem d_Ref_stretch_64 : decode b_Ref_stretch 64 = .ok (.iload 4, 2) := by decide +kernel
theorem d_Ref_stretch_66 : decode b_Ref_stretch 66 = .ok (.iaload, 1) := by decide +kernel
theorem d_Ref_stretch_67 : decode b_Ref_stretch 67 = .ok (.iaload, 1) := by decide +kernel
theorem d_Ref_stretch_68 : decode b_Ref_stretch 68 = .ok (.iconst 1, 1) := by decide +kernel
theorem d_Ref_stretch_69 : decode b_Ref_stretch 69 = .ok (.iastore, 1) := by decide +kernel
theorem d_Ref_stretch_70 : decode b_Ref_stretch 70 = .ok (.iconst 0, 1) := by decide +kernel
theorem d_Ref_stretch_71 : decode b_Ref_stretch 71 = .ok (.istore 5, 2) := by decide +kernel
theorem d_Ref_stretch_73 : decode b_Ref_stretch 73 = .ok (.iload 5, 2) := by decide +kernel
theorem d_Ref_stretch_75 : decode b_Ref_stretch 75 = .ok (.iload_n 3, 1) := by decide +kernel
theorem d_Ref_stretch_76 : decode b_Ref_stretch 76 = .ok (.if_icmp .ge 154, 3) := by decide +kernel
theorem d_Ref_stretch_79 : decode b_Ref_stretch 79 = .ok (.aload_n 0, 1) := by decide +kernel
theorem d_Ref_stretch_80 : decode b_Ref_stretch 80 = .ok (.iload 5, 2) := by decide +kernel
theorem d_Ref_stretch_82 : decode b_Ref_stretch 82 = .ok (.invokevirtual 110, 3) := by decide +kernel
theorem d_Ref_stretch_85 : decode b_Ref_stretch 85 = .ok (.istore 6, 2) := by decide +kernel
theorem d_Ref_stretch_87 : decode b_Ref_stretch 87 = .ok (.iload 6, 2) := by decide +kernel
theorem d_Ref_stretch_89 : decode b_Ref_stretch 89 = .ok (.aload_n 0, 1) := by decide +kernel
theorem d_Ref_stretch_90 : decode b_Ref_stretch 90 = .ok (.getfield 104, 3) := by decide +kernel
theorem d_Ref_stretch_93 : decode b_Ref_stretch 93 = .ok (.if_icmp .gt 131, 3) := by decide +kernel
theorem d_Ref_stretch_96 : decode b_Ref_stretch 96 = .ok (.iconst 1, 1) := by decide +kernel
theorem d_Ref_stretch_97 : decode b_Ref_stretch 97 = .ok (.istore 7, 2) := by decide +kernel
theorem d_Ref_stretch_99 : decode b_Ref_stretch 99 = .ok (.iload 7, 2) := by decide +kernel
theorem d_Ref_stretch_101 : decode b_Ref_stretch 101 = .ok (.iload 6, 2) := by decide +kernel
theorem d_Ref_stretch_103 : decode b_Ref_stretch 103 = .ok (.if_icmp .gt 27, 3) := by decide +kernel
theorem d_Ref_stretch_106 : decode b_Ref_stretch 106 = .ok (.iload 7, 2) := by decide +kernel
theorem d_Ref_stretch_108 : decode b_Ref_stretch 108 = .ok (.iload_n 2, 1) := by decide +kernel
theorem d_Ref_stretch_109 : decode b_Ref_stretch 109 = .ok (.iload_n 1, 1) := by decide +kernel
theorem d_Ref_stretch_110 : decode b_Ref_stretch 110 = .ok (.isub, 1) := by decide +kernel
theorem d_Ref_stretch_111 : decode b_Ref_stretch 111 = .ok (.if_icmp .gt 19, 3) := by decide +kernel
theorem d_Ref_stretch_114 : decode b_Ref_stretch 114 = .ok (.aload_n 0, 1) := by decide +kernel
theorem d_Ref_stretch_115 : decode b_Ref_stretch 115 = .ok (.iload 5, 2) := by decide +kernel
theorem d_Ref_stretch_117 : decode b_Ref_stretch 117 = .ok (.iload 7, 2) := by decide +kernel
theorem d_Ref_stretch_119 : decode b_Ref_stretch 119 = .ok (.iload_n 1, 1) := by decide +kernel
theorem d_Ref_stretch_120 : decode b_Ref_stretch 120 = .ok (.iload_n 2, 1) := by decide +kernel
theorem d_Ref_stretch_121 : decode b_Ref_stretch 121 = .ok (.invokevirtual 118, 3) := by decide +kernel
theorem d_Ref_stretch_124 : decode b_Ref_stretch 124 = .ok (.iinc 7 1, 3) := by decide +kernel
theorem d_Ref_stretch_127 : decode b_Ref_stretch 127 = .ok (.goto (-28), 3) := by decide +kernel
theorem d_Ref_stretch_130 : decode b_Ref_stretch 130 = .ok (.iload 6, 2) := by decide +kernel
theorem d_Ref_stretch_132 : decode b_Ref_stretch 132 = .ok (.iconst 1, 1) := by decide +kernel
theorem d_Ref_stretch_133 : decode b_Ref_stretch 133 = .ok (.if_icmp .ne 28, 3) := by decide +kernel
theorem d_Ref_stretch_136 : decode b_Ref_stretch 136 = .ok (.aload_n 0, 1) := by decide +kernel
theorem d_Ref_stretch_137 : decode b_Ref_stretch 137 = .ok (.getfield 7, 3) := by decide +kernel
theorem d_Ref_stretch_140 : decode b_Ref_stretch 140 = .ok (.aload_n 0, 1) := by decide +kernel
theorem d_Ref_stretch_141 : decode b_Ref_stretch 141 = .ok (.getfield 22, 3) := by decide +kernel
theorem d_Ref_stretch_144 : decode b_Ref_stretch 144 = .ok (.aload_n 0, 1) := by decide +kernel
theorem d_Ref_stretch_145 : decode b_Ref_stretch 145 = .ok (.getfield 19, 3) := by decide +kernel
theorem d_Ref_stretch_148 : decode b_Ref_stretch 148 = .ok (.iload 5, 2) := by decide +kernel
theorem d_Ref_stretch_150 : decode b_Ref_stretch 150 = .ok (.iaload, 1) := by decide +kernel
theorem d_Ref_stretch_151 : decode b_Ref_stretch 151 = .ok (.iaload, 1) := by decide +kernel
theorem d_Ref_stretch_152 : decode b_Ref_stretch 152 = .ok (.iaload, 1) := by decide +kernel
theorem d_Ref_stretch_153 : decode b_Ref_stretch 153 = .ok (.iconst (-1), 1) := by decide +kernel
theorem d_Ref_stretch_154 : decode b_Ref_stretch 154 = .ok (.if_icmp .eq 7, 3) := by decide +kernel
theorem d_Ref_stretch_157 : decode b_Ref_stretch 157 = .ok (.iconst 1, 1) := by decide +kernel
theorem d_Ref_stretch_158 : decode b_Ref_stretch 158 = .ok (.goto 4, 3) := by decide +kernel
theorem d_Ref_stretch_161 : decode b_Ref_stretch 161 = .ok (.iconst 0, 1) := by decide +kernel
theorem d_Ref_stretch_162 : decode b_Ref_stretch 162 = .ok (.istore 7, 2) := by decide +kernel
theorem d_Ref_stretch_164 : decode b_Ref_stretch 164 = .ok (.iload 7, 2) := by decide +kernel
theorem d_Ref_stretch_166 : decode b_Ref_stretch 166 = .ok (.ifCond .ne 58, 3) := by decide +kernel
theorem d_Ref_stretch_169 : decode b_Ref_stretch 169 = .ok (.aload_n 0, 1) := by decide +kernel
theorem d_Ref_stretch_170 : decode b_Ref_stretch 170 = .ok (.getfield 13, 3) := by decide +kernel
theorem d_Ref_stretch_173 : decode b_Ref_stretch 173 = .ok (.aload_n 0, 1) := by decide +kernel
theorem d_Ref_stretch_174 : decode b_Ref_stretch 174 = .ok (.getfield 16, 3) := by decide +kernel
theorem d_Ref_stretch_177 : decode b_Ref_stretch 177 = .ok (.iload 5, 2) := by decide +kernel
theorem d_Ref_stretch_179 : decode b_Ref_stretch 179 = .ok (.iaload, 1) := by decide +kernel
theorem d_Ref_stretch_180 : decode b_Ref_stretch 180 = .ok (.iaload, 1) := by decide +kernel
theorem d_Ref_stretch_181 : decode b_Ref_stretch 181 = .ok (.istore 8, 2) := by decide +kernel
theorem d_Ref_stretch_183 : decode b_Ref_stretch 183 = .ok (.aload_n 0, 1) := by decide +kernel
theorem d_Ref_stretch_184 : decode b_Ref_stretch 184 = .ok (.getfield 37, 3) := by decide +kernel
theorem d_Ref_stretch_187 : decode b_Ref_stretch 187 = .ok (.iload 8, 2) := by decide +kernel
theorem d_Ref_stretch_189 : decode b_Ref_stretch 189 = .ok (.aload_n 0, 1) := by decide +kernel
theorem d_Ref_stretch_190 : decode b_Ref_stretch 190 = .ok (.getfield 37, 3) := by decide +kernel
theorem d_Ref_stretch_193 : decode b_Ref_stretch 193 = .ok (.iload 8, 2) := by decide +kernel
theorem d_Ref_stretch_195 : decode b_Ref_stretch 195 = .ok (.iaload, 1) := by decide +kernel
theorem d_Ref_stretch_196 : decode b_Ref_stretch 196 = .ok (.aload_n 0, 1) := by decide +kernel
theorem d_Ref_stretch_197 : decode b_Ref_stretch 197 = .ok (.getfield 34, 3) := by decide +kernel
theorem d_Ref_stretch_200 : decode b_Ref_stretch 200 = .ok (.bipush 60, 2) := by decide +kernel
theorem d_Ref_stretch_202 : decode b_Ref_stretch 202 = .ok (.aload_n 0, 1) := by decide +kernel
theorem d_Ref_stretch_203 : decode b_Ref_stretch 203 = .ok (.getfield 19, 3) := by decide +kernel
theorem d_Ref_stretch_206 : decode b_Ref_stretch 206 = .ok (.iload 5, 2) := by decide +kernel
theorem d_Ref_stretch_208 : decode b_Ref_stretch 208 = .ok (.iaload, 1) := by decide +kernel
theorem d_Ref_stretch_209 : decode b_Ref_stretch 209 = .ok (.iload 5, 2) := by decide +kernel
theorem d_Ref_stretch_211 : decode b_Ref_stretch 211 = .ok (.iadd, 1) := by decide +kernel
theorem d_Ref_stretch_212 : decode b_Ref_stretch 212 = .ok (.iload 6, 2) := by decide +kernel
theorem d_Ref_stretch_214 : decode b_Ref_stretch 214 = .ok (.iadd, 1) := by decide +kernel
theorem d_Ref_stretch_215 : decode b_Ref_stretch 215 = .ok (.imul, 1) := by decide +kernel
theorem d_Ref_stretch_216 : decode b_Ref_stretch 216 = .ok (.iload_n 2, 1) := by decide +kernel
theorem d_Ref_stretch_217 : decode b_Ref_stretch 217 = .ok (.iadd, 1) := by decide +kernel
theorem d_Ref_stretch_218 : decode b_Ref_stretch 218 = .ok (.baload, 1) := by decide +kernel
theorem d_Ref_stretch_219 : decode b_Ref_stretch 219 = .ok (.iadd, 1) := by decide +kernel
theorem d_Ref_stretch_220 : decode b_Ref_stretch 220 = .ok (.invokestatic 122, 3) := by decide +kernel
theorem d_Ref_stretch_223 : decode b_Ref_stretch 223 = .ok (.iastore, 1) := by decide +kernel
theorem d_Ref_stretch_224 : decode b_Ref_stretch 224 = .ok (.iinc 5 1, 3) := by decide +kernel
theorem d_Ref_stretch_227 : decode b_Ref_stretch 227 = .ok (.goto (-154), 3) := by decide +kernel
theorem d_Ref_stretch_230 : decode b_Ref_stretch 230 = .ok (.aload_n 0, 1) := by decide +kernel
theorem d_Ref_stretch_231 : decode b_Ref_stretch 231 = .ok (.iload_n 1, 1) := by decide +kernel
theorem d_Ref_stretch_232 : decode b_Ref_stretch 232 = .ok (.iload_n 2, 1) := by decide +kernel
theorem d_Ref_stretch_233 : decode b_Ref_stretch 233 = .ok (.iload_n 3, 1) := by decide +kernel
theorem d_Ref_stretch_234 : decode b_Ref_stretch 234 = .ok (.invokevirtual 125, 3) := by decide +kernel
theorem d_Ref_stretch_237 : decode b_Ref_stretch 237 = .ok (.iconst 0, 1) := by decide +kernel
theorem d_Ref_stretch_238 : decode b_Ref_stretch 238 = .ok (.istore 5, 2) := by decide +kernel
theorem d_Ref_stretch_240 : decode b_Ref_stretch 240 = .ok (.iload 5, 2) := by decide +kernel
theorem d_Ref_stretch_242 : decode b_Ref_stretch 242 = .ok (.iload_n 3, 1) := by decide +kernel
theorem d_Ref_stretch_243 : decode b_Ref_stretch 243 = .ok (.if_icmp .ge 78, 3) := by decide +kernel
theorem d_Ref_stretch_246 : decode b_Ref_stretch 246 = .ok (.aload_n 0, 1) := by decide +kernel
theorem d_Ref_stretch_247 : decode b_Ref_stretch 247 = .ok (.getfield 22, 3) := by decide +kernel
theorem d_Ref_stretch_250 : decode b_Ref_stretch 250 = .ok (.aload_n 0, 1) := by decide +kernel
theorem d_Ref_stretch_251 : decode b_Ref_stretch 251 = .ok (.getfield 19, 3) := by decide +kernel
theorem d_Ref_stretch_254 : decode b_Ref_stretch 254 = .ok (.iload 5, 2) := by decide +kernel
theorem d_Ref_stretch_256 : decode b_Ref_stretch 256 = .ok (.iaload, 1) := by decide +kernel
theorem d_Ref_stretch_257 : decode b_Ref_stretch 257 = .ok (.iaload, 1) := by decide +kernel
theorem d_Ref_stretch_258 : decode b_Ref_stretch 258 = .ok (.istore 6, 2) := by decide +kernel
theorem d_Ref_stretch_260 : decode b_Ref_stretch 260 = .ok (.aload_n 0, 1) := by decide +kernel
theorem d_Ref_stretch_261 : decode b_Ref_stretch 261 = .ok (.getfield 7, 3) := by decide +kernel
theorem d_Ref_stretch_264 : decode b_Ref_stretch 264 = .ok (.iload 6, 2) := by decide +kernel
theorem d_Ref_stretch_266 : decode b_Ref_stretch 266 = .ok (.iaload, 1) := by decide +kernel
theorem d_Ref_stretch_267 : decode b_Ref_stretch 267 = .ok (.iconst (-1), 1) := by decide +kernel
theorem d_Ref_stretch_268 : decode b_Ref_stretch 268 = .ok (.if_icmp .eq 47, 3) := by decide +kernel
theorem d_Ref_stretch_271 : decode b_Ref_stretch 271 = .ok (.aload_n 0, 1) := by decide +kernel
theorem d_Ref_stretch_272 : decode b_Ref_stretch 272 = .ok (.iload 5, 2) := by decide +kernel
theorem d_Ref_stretch_274 : decode b_Ref_stretch 274 = .ok (.invokevirtual 110, 3) := by decide +kernel
theorem d_Ref_stretch_277 : decode b_Ref_stretch 277 = .ok (.aload_n 0, 1) := by decide +kernel
theorem d_Ref_stretch_278 : decode b_Ref_stretch 278 = .ok (.getfield 104, 3) := by decide +kernel
theorem d_Ref_stretch_281 : decode b_Ref_stretch 281 = .ok (.if_icmp .gt 34, 3) := by decide +kernel
theorem d_Ref_stretch_284 : decode b_Ref_stretch 284 = .ok (.aload_n 0, 1) := by decide +kernel
theorem d_Ref_stretch_285 : decode b_Ref_stretch 285 = .ok (.getfield 34, 3) := by decide +kernel
theorem d_Ref_stretch_288 : decode b_Ref_stretch 288 = .ok (.bipush 60, 2) := by decide +kernel
theorem d_Ref_stretch_290 : decode b_Ref_stretch 290 = .ok (.aload_n 0, 1) := by decide +kernel
theorem d_Ref_stretch_291 : decode b_Ref_stretch 291 = .ok (.getfield 19, 3) := by decide +kernel
theorem d_Ref_stretch_294 : decode b_Ref_stretch 294 = .ok (.iload 5, 2) := by decide +kernel
theorem d_Ref_stretch_296 : decode b_Ref_stretch 296 = .ok (.iaload, 1) := by decide +kernel
theorem d_Ref_stretch_297 : decode b_Ref_stretch 297 = .ok (.iload 5, 2) := by decide +kernel
theorem d_Ref_stretch_299 : decode b_Ref_stretch 299 = .ok (.iadd, 1) := by decide +kernel
theorem d_Ref_stretch_300 : decode b_Ref_stretch 300 = .ok (.iconst 1, 1) := by decide +kernel
theorem d_Ref_stretch_301 : decode b_Ref_stretch 301 = .ok (.iadd, 1) := by decide +kernel
theorem d_Ref_stretch_302 : decode b_Ref_stretch 302 = .ok (.imul, 1) := by decide +kernel
theorem d_Ref_stretch_303 : decode b_Ref_stretch 303 = .ok (.iload_n 2, 1) := by decide +kernel
theorem d_Ref_stretch_304 : decode b_Ref_stretch 304 = .ok (.iadd, 1) := by decide +kernel
theorem d_Ref_stretch_305 : decode b_Ref_stretch 305 = .ok (.aload_n 0, 1) := by decide +kernel
theorem d_Ref_stretch_306 : decode b_Ref_stretch 306 = .ok (.iload 6, 2) := by decide +kernel
theorem d_Ref_stretch_308 : decode b_Ref_stretch 308 = .ok (.iload_n 1, 1) := by decide +kernel
theorem d_Ref_stretch_309 : decode b_Ref_stretch 309 = .ok (.iload_n 2, 1) := by decide +kernel
theorem d_Ref_stretch_310 : decode b_Ref_stretch 310 = .ok (.invokevirtual 128, 3) := by decide +kernel
theorem d_Ref_stretch_313 : decode b_Ref_stretch 313 = .ok (.i2b, 1) := by decide +kernel
theorem d_Ref_stretch_314 : decode b_Ref_stretch 314 = .ok (.bastore, 1) := by decide +kernel
theorem d_Ref_stretch_315 : decode b_Ref_stretch 315 = .ok (.iinc 5 1, 3) := by decide +kernel
theorem d_Ref_stretch_318 : decode b_Ref_stretch 318 = .ok (.goto (-78), 3) := by decide +kernel
theorem d_Ref_stretch_321 : decode b_Ref_stretch 321 = .ok (.return_, 1) := by decide +kernel
abbrev b_Ref_grow : ByteArray := prog_8_method_23_code
def y_Ref_grow : MethodName := ⟨"SyntaxTreesModel", "grow", "(I)V"⟩
def w_Ref_grow : List Cond := .code y_Ref_grow b_Ref_grow 8 none :: TBL
theorem hd_Ref_grow : y_Ref_grow.cls = "SyntaxTreesModel" ∧ y_Ref_grow.cls ≠ "java/lang/invoke/MethodHandle" ∧ y_Ref_grow.cls ≠ "java/lang/invoke/VarHandle" ∧ (parseMethodDescriptor y_Ref_grow.desc).map (fun d => d.parameters.length) = some 1 := by decide +kernel
theorem d_Ref_grow_0 : decode b_Ref_grow 0 = .ok (.aload_n 0, 1) := by decide +kernel
theorem d_Ref_grow_1 : decode b_Ref_grow 1 = .ok (.getfield 46, 3) := by decide +kernel
theorem d_Ref_grow_4 : decode b_Ref_grow 4 = .ok (.iload_n 1, 1) := by decide +kernel
theorem d_Ref_grow_5 : decode b_Ref_grow 5 = .ok (.iaload, 1) := by decide +kernel
theorem d_Ref_grow_6 : decode b_Ref_grow 6 = .ok (.istore_n 2, 1) := by decide +kernel
theorem d_Ref_grow_7 : decode b_Ref_grow 7 = .ok (.aload_n 0, 1) := by decide +kernel
theorem d_Ref_grow_8 : decode b_Ref_grow 8 = .ok (.getfield 49, 3) := by decide +kernel
theorem d_Ref_grow_11 : decode b_Ref_grow 11 = .ok (.iload_n 1, 1) := by decide +kernel
theorem d_Ref_grow_12 : decode b_Ref_grow 12 = .ok (.iaload, 1) := by decide +kernel
theorem d_Ref_grow_13 : decode b_Ref_grow 13 = .ok (.istore_n 3, 1) := by decide +kernel
theorem d_Ref_grow_14 : decode b_Ref_grow 14 = .ok (.iload_n 3, 1) := by decide +kernel
theorem d_Ref_grow_15 : decode b_Ref_grow 15 = .ok (.iload_n 2, 1) := by decide +kernel
theorem d_Ref_grow_16 : decode b_Ref_grow 16 = .ok (.iconst 1, 1) := by decide +kernel
theorem d_Ref_grow_17 : decode b_Ref_grow 17 = .ok (.iadd, 1) := by decide +kernel
theorem d_Ref_grow_18 : decode b_Ref_grow 18 = .ok (.if_icmp .ne 36, 3) := by decide +kernel
theorem d_Ref_grow_21 : decode b_Ref_grow 21 = .ok (.aload_n 0, 1) := by decide +kernel
theorem d_Ref_grow_22 : decode b_Ref_grow 22 = .ok (.getfield 7, 3) := by decide +kernel
theorem d_Ref_grow_25 : decode b_Ref_grow 25 = .ok (.aload_n 0, 1) := by decide +kernel
theorem d_Ref_grow_26 : decode b_Ref_grow 26 = .ok (.getfield 25, 3) := by decide +kernel
theorem d_Ref_grow_29 : decode b_Ref_grow 29 = .ok (.iload_n 2, 1) := by decide +kernel
theorem d_Ref_grow_30 : decode b_Ref_grow 30 = .ok (.iaload, 1) := by decide +kernel
theorem d_Ref_grow_31 : decode b_Ref_grow 31 = .ok (.iaload, 1) := by decide +kernel
theorem d_Ref_grow_32 : decode b_Ref_grow 32 = .ok (.aload_n 0, 1) := by decide +kernel
theorem d_Ref_grow_33 : decode b_Ref_grow 33 = .ok (.getfield 43, 3) := by decide +kernel
theorem d_Ref_grow_36 : decode b_Ref_grow 36 = .ok (.iload_n 1, 1) := by decide +kernel
theorem d_Ref_grow_37 : decode b_Ref_grow 37 = .ok (.iaload, 1) := by decide +kernel
theorem d_Ref_grow_38 : decode b_Ref_grow 38 = .ok (.if_icmp .ne 16, 3) := by decide +kernel
theorem d_Ref_grow_41 : decode b_Ref_grow 41 = .ok (.aload_n 0, 1) := by decide +kernel
theorem d_Ref_grow_42 : decode b_Ref_grow 42 = .ok (.getfield 58, 3) := by decide +kernel
theorem d_Ref_grow_45 : decode b_Ref_grow 45 = .ok (.iload_n 1, 1) := by decide +kernel
theorem d_Ref_grow_46 : decode b_Ref_grow 46 = .ok (.aload_n 0, 1) := by decide +kernel
theorem d_Ref_grow_47 : decode b_Ref_grow 47 = .ok (.getfield 25, 3) := by decide +kernel
theorem d_Ref_grow_50 : decode b_Ref_grow 50 = .ok (.iload_n 2, 1) := by decide +kernel
theorem d_Ref_grow_51 : decode b_Ref_grow 51 = .ok (.iaload, 1) := by decide +kernel
theorem d_Ref_grow_52 : decode b_Ref_grow 52 = .ok (.iastore, 1) := by decide +kernel
theorem d_Ref_grow_53 : decode b_Ref_grow 53 = .ok (.return_, 1) := by decide +kernel
theorem d_Ref_grow_54 : decode b_Ref_grow 54 = .ok (.iconst 0, 1) := by decide +kernel
theorem d_Ref_grow_55 : decode b_Ref_grow 55 = .ok (.istore 4, 2) := by decide +kernel
theorem d_Ref_grow_57 : decode b_Ref_grow 57 = .ok (.iload 4, 2) := by decide +kernel
theorem d_Ref_grow_59 : decode b_Ref_grow 59 = .ok (.aload_n 0, 1) := by decide +kernel
theorem d_Ref_grow_60 : decode b_Ref_grow 60 = .ok (.getfield 107, 3) := by decide +kernel
theorem d_Ref_grow_63 : decode b_Ref_grow 63 = .ok (.if_icmp .ge 67, 3) := by decide +kernel
theorem d_Ref_grow_66 : decode b_Ref_grow 66 = .ok (.aload_n 0, 1) := by decide +kernel
theorem d_Ref_grow_67 : decode b_Ref_grow 67 = .ok (.getfield 40, 3) := by decide +kernel
theorem d_Ref_grow_70 : decode b_Ref_grow 70 = .ok (.iload_n 1, 1) := by decide +kernel
theorem d_Ref_grow_71 : decode b_Ref_grow 71 = .ok (.iaload, 1) := by decide +kernel
theorem d_Ref_grow_72 : decode b_Ref_grow 72 = .ok (.iconst (-1), 1) := by decide +kernel
theorem d_Ref_grow_73 : decode b_Ref_grow 73 = .ok (.if_icmp .ne 57, 3) := by decide +kernel
theorem d_Ref_grow_76 : decode b_Ref_grow 76 = .ok (.aload_n 0, 1) := by decide +kernel
theorem d_Ref_grow_77 : decode b_Ref_grow 77 = .ok (.getfield 16, 3) := by decide +kernel
theorem d_Ref_grow_80 : decode b_Ref_grow 80 = .ok (.iload 4, 2) := by decide +kernel
theorem d_Ref_grow_82 : decode b_Ref_grow 82 = .ok (.iaload, 1) := by decide +kernel
theorem d_Ref_grow_83 : decode b_Ref_grow 83 = .ok (.aload_n 0, 1) := by decide +kernel
theorem d_Ref_grow_84 : decode b_Ref_grow 84 = .ok (.getfield 43, 3) := by decide +kernel
theorem d_Ref_grow_87 : decode b_Ref_grow 87 = .ok (.iload_n 1, 1) := by decide +kernel
theorem d_Ref_grow_88 : decode b_Ref_grow 88 = .ok (.iaload, 1) := by decide +kernel
theorem d_Ref_grow_89 : decode b_Ref_grow 89 = .ok (.if_icmp .ne 35, 3) := by decide +kernel
theorem d_Ref_grow_92 : decode b_Ref_grow 92 = .ok (.aload_n 0, 1) := by decide +kernel
theorem d_Ref_grow_93 : decode b_Ref_grow 93 = .ok (.iload 4, 2) := by decide +kernel
theorem d_Ref_grow_95 : decode b_Ref_grow 95 = .ok (.invokevirtual 110, 3) := by decide +kernel
theorem d_Ref_grow_98 : decode b_Ref_grow 98 = .ok (.iload_n 3, 1) := by decide +kernel
theorem d_Ref_grow_99 : decode b_Ref_grow 99 = .ok (.iload_n 2, 1) := by decide +kernel
theorem d_Ref_grow_100 : decode b_Ref_grow 100 = .ok (.isub, 1) := by decide +kernel
theorem d_Ref_grow_101 : decode b_Ref_grow 101 = .ok (.if_icmp .gt 23, 3) := by decide +kernel
theorem d_Ref_grow_104 : decode b_Ref_grow 104 = .ok (.aload_n 0, 1) := by decide +kernel
theorem d_Ref_grow_105 : decode b_Ref_grow 105 = .ok (.iload 4, 2) := by decide +kernel
theorem d_Ref_grow_107 : decode b_Ref_grow 107 = .ok (.iconst 0, 1) := by decide +kernel
theorem d_Ref_grow_108 : decode b_Ref_grow 108 = .ok (.iload_n 2, 1) := by decide +kernel
theorem d_Ref_grow_109 : decode b_Ref_grow 109 = .ok (.iload_n 3, 1) := by decide +kernel
theorem d_Ref_grow_110 : decode b_Ref_grow 110 = .ok (.invokevirtual 155, 3) := by decide +kernel
theorem d_Ref_grow_113 : decode b_Ref_grow 113 = .ok (.ifCond .eq 11, 3) := by decide +kernel
theorem d_Ref_grow_116 : decode b_Ref_grow 116 = .ok (.aload_n 0, 1) := by decide +kernel
theorem d_Ref_grow_117 : decode b_Ref_grow 117 = .ok (.getfield 40, 3) := by decide +kernel
theorem d_Ref_grow_120 : decode b_Ref_grow 120 = .ok (.iload_n 1, 1) := by decide +kernel
theorem d_Ref_grow_121 : decode b_Ref_grow 121 = .ok (.iload 4, 2) := by decide +kernel
theorem d_Ref_grow_123 : decode b_Ref_grow 123 = .ok (.iastore, 1) := by decide +kernel
theorem d_Ref_grow_124 : decode b_Ref_grow 124 = .ok (.iinc 4 1, 3) := by decide +kernel
theorem d_Ref_grow_127 : decode b_Ref_grow 127 = .ok (.goto (-70), 3) := by decide +kernel
theorem d_Ref_grow_130 : decode b_Ref_grow 130 = .ok (.iload_n 2, 1) := by decide +kernel
theorem d_Ref_grow_131 : decode b_Ref_grow 131 = .ok (.istore 4, 2) := by decide +kernel
theorem d_Ref_grow_133 : decode b_Ref_grow 133 = .ok (.iconst 0, 1) := by decide +kernel
theorem d_Ref_grow_134 : decode b_Ref_grow 134 = .ok (.istore 5, 2) := by decide +kernel
theorem d_Ref_grow_136 : decode b_Ref_grow 136 = .ok (.iload 5, 2) := by decide +kernel
theorem d_Ref_grow_138 : decode b_Ref_grow 138 = .ok (.aload_n 0, 1) := by decide +kernel
theorem d_Ref_grow_139 : decode b_Ref_grow 139 = .ok (.aload_n 0, 1) := by decide +kernel
theorem d_Ref_grow_140 : decode b_Ref_grow 140 = .ok (.getfield 40, 3) := by decide +kernel
theorem d_Ref_grow_143 : decode b_Ref_grow 143 = .ok (.iload_n 1, 1) := by decide +kernel
theorem d_Ref_grow_144 : decode b_Ref_grow 144 = .ok (.iaload, 1) := by decide +kernel
theorem d_Ref_grow_145 : decode b_Ref_grow 145 = .ok (.invokevirtual 110, 3) := by decide +kernel
theorem d_Ref_grow_148 : decode b_Ref_grow 148 = .ok (.if_icmp .ge 154, 3) := by decide +kernel
theorem d_Ref_grow_151 : decode b_Ref_grow 151 = .ok (.aload_n 0, 1) := by decide +kernel
theorem d_Ref_grow_152 : decode b_Ref_grow 152 = .ok (.getfield 22, 3) := by decide +kernel
theorem d_Ref_grow_155 : decode b_Ref_grow 155 = .ok (.aload_n 0, 1) := by decide +kernel
theorem d_Ref_grow_156 : decode b_Ref_grow 156 = .ok (.getfield 19, 3) := by decide +kernel
theorem d_Ref_grow_159 : decode b_Ref_grow 159 = .ok (.aload_n 0, 1) := by decide +kernel
theorem d_Ref_grow_160 : decode b_Ref_grow 160 = .ok (.getfield 40, 3) := by decide +kernel
theorem d_Ref_grow_163 : decode b_Ref_grow 163 = .ok (.iload_n 1, 1) := by decide +kernel
theorem d_Ref_grow_164 : decode b_Ref_grow 164 = .ok (.iaload, 1) := by decide +kernel
theorem d_Ref_grow_165 : decode b_Ref_grow 165 = .ok (.iaload, 1) := by decide +kernel
theorem d_Ref_grow_166 : decode b_Ref_grow 166 = .ok (.iload 5, 2) := by decide +kernel
theorem d_Ref_grow_168 : decode b_Ref_grow 168 = .ok (.iadd, 1) := by decide +kernel
theorem d_Ref_grow_169 : decode b_Ref_grow 169 = .ok (.iaload, 1) := by decide +kernel
theorem d_Ref_grow_170 : decode b_Ref_grow 170 = .ok (.istore 6, 2) := by decide +kernel
theorem d_Ref_grow_172 : decode b_Ref_grow 172 = .ok (.iload 4, 2) := by decide +kernel
theorem d_Ref_grow_174 : decode b_Ref_grow 174 = .ok (.iconst 1, 1) := by decide +kernel
theorem d_Ref_grow_175 : decode b_Ref_grow 175 = .ok (.iadd, 1) := by decide +kernel
theorem d_Ref_grow_176 : decode b_Ref_grow 176 = .ok (.istore 7, 2) := by decide +kernel
theorem d_Ref_grow_178 : decode b_Ref_grow 178 = .ok (.aload_n 0, 1) := by decide +kernel
theorem d_Ref_grow_179 : decode b_Ref_grow 179 = .ok (.getfield 7, 3) := by decide +kernel
theorem d_Ref_grow_182 : decode b_Ref_grow 182 = .ok (.iload 6, 2) := by decide +kernel
theorem d_Ref_grow_184 : decode b_Ref_grow 184 = .ok (.iaload, 1) := by decide +kernel
theorem d_Ref_grow_185 : decode b_Ref_grow 185 = .ok (.iconst (-1), 1) := by decide +kernel
theorem d_Ref_grow_186 : decode b_Ref_grow 186 = .ok (.if_icmp .eq 42, 3) := by decide +kernel
theorem d_Ref_grow_189 : decode b_Ref_grow 189 = .ok (.aload_n 0, 1) := by decide +kernel
theorem d_Ref_grow_190 : decode b_Ref_grow 190 = .ok (.iload 6, 2) := by decide +kernel
theorem d_Ref_grow_192 : decode b_Ref_grow 192 = .ok (.iload 4, 2) := by decide +kernel
theorem d_Ref_grow_194 : decode b_Ref_grow 194 = .ok (.iload 7, 2) := by decide +kernel
theorem d_Ref_grow_196 : decode b_Ref_grow 196 = .ok (.invokevirtual 128, 3) := by decide +kernel
theorem d_Ref_grow_199 : decode b_Ref_grow 199 = .ok (.ifCond .eq 23, 3) := by decide +kernel
theorem d_Ref_grow_202 : decode b_Ref_grow 202 = .ok (.aload_n 0, 1) := by decide +kernel
theorem d_Ref_grow_203 : decode b_Ref_grow 203 = .ok (.aload_n 0, 1) := by decide +kernel
theorem d_Ref_grow_204 : decode b_Ref_grow 204 = .ok (.getfield 40, 3) := by decide +kernel
theorem d_Ref_grow_207 : decode b_Ref_grow 207 = .ok (.iload_n 1, 1) := by decide +kernel
theorem d_Ref_grow_208 : decode b_Ref_grow 208 = .ok (.iaload, 1) := by decide +kernel
theorem d_Ref_grow_209 : decode b_Ref_grow 209 = .ok (.iload 5, 2) := by decide +kernel
theorem d_Ref_grow_211 : decode b_Ref_grow 211 = .ok (.iconst 1, 1) := by decide +kernel
theorem d_Ref_grow_212 : decode b_Ref_grow 212 = .ok (.iadd, 1) := by decide +kernel
theorem d_Ref_grow_213 : decode b_Ref_grow 213 = .ok (.iload 7, 2) := by decide +kernel
theorem d_Ref_grow_215 : decode b_Ref_grow 215 = .ok (.iload_n 3, 1) := by decide +kernel
theorem d_Ref_grow_216 : decode b_Ref_grow 216 = .ok (.invokevirtual 155, 3) := by decide +kernel
theorem d_Ref_grow_219 : decode b_Ref_grow 219 = .ok (.ifCond .ne 9, 3) := by decide +kernel
theorem d_Ref_grow_222 : decode b_Ref_grow 222 = .ok (.iinc 7 1, 3) := by decide +kernel
theorem d_Ref_grow_225 : decode b_Ref_grow 225 = .ok (.goto (-47), 3) := by decide +kernel
theorem d_Ref_grow_228 : decode b_Ref_grow 228 = .ok (.aload_n 0, 1) := by decide +kernel
theorem d_Ref_grow_229 : decode b_Ref_grow 229 = .ok (.getfield 7, 3) := by decide +kernel
theorem d_Ref_grow_232 : decode b_Ref_grow 232 = .ok (.iload 6, 2) := by decide +kernel
theorem d_Ref_grow_234 : decode b_Ref_grow 234 = .ok (.iaload, 1) := by decide +kernel
theorem d_Ref_grow_235 : decode b_Ref_grow 235 = .ok (.iconst (-1), 1) := by decide +kernel
theorem d_Ref_grow_236 : decode b_Ref_grow 236 = .ok (.if_icmp .eq 56, 3) := by decide +kernel
theorem d_Ref_grow_239 : decode b_Ref_grow 239 = .ok (.aload_n 0, 1) := by decide +kernel
theorem d_Ref_grow_240 : decode b_Ref_grow 240 = .ok (.getfield 52, 3) := by decide +kernel
theorem d_Ref_grow_243 : decode b_Ref_grow 243 = .ok (.iload_n 1, 1) := by decide +kernel
theorem d_Ref_grow_244 : decode b_Ref_grow 244 = .ok (.aload_n 0, 1) := by decide +kernel
theorem d_Ref_grow_245 : decode b_Ref_grow 245 = .ok (.getfield 55, 3) := by decide +kernel
theorem d_Ref_grow_248 : decode b_Ref_grow 248 = .ok (.iload_n 1, 1) := by decide +kernel
theorem d_Ref_grow_249 : decode b_Ref_grow 249 = .ok (.iaload, 1) := by decide +kernel
theorem d_Ref_grow_250 : decode b_Ref_grow 250 = .ok (.ifCond .ne 10, 3) := by decide +kernel
theorem d_Ref_grow_253 : decode b_Ref_grow 253 = .ok (.aload_n 0, 1) := by decide +kernel
theorem d_Ref_grow_254 : decode b_Ref_grow 254 = .ok (.getfield 143, 3) := by decide +kernel
theorem d_Ref_grow_257 : decode b_Ref_grow 257 = .ok (.goto 9, 3) := by decide +kernel
theorem d_Ref_grow_260 : decode b_Ref_grow 260 = .ok (.aload_n 0, 1) := by decide +kernel
theorem d_Ref_grow_261 : decode b_Ref_grow 261 = .ok (.getfield 52, 3) := by decide +kernel
theorem d_Ref_grow_264 : decode b_Ref_grow 264 = .ok (.iload_n 1, 1) := by decide +kernel
theorem d_Ref_grow_265 : decode b_Ref_grow 265 = .ok (.iaload, 1) := by decide +kernel
theorem d_Ref_grow_266 : decode b_Ref_grow 266 = .ok (.iastore, 1) := by decide +kernel
theorem d_Ref_grow_267 : decode b_Ref_grow 267 = .ok (.aload_n 0, 1) := by decide +kernel
theorem d_Ref_grow_268 : decode b_Ref_grow 268 = .ok (.getfield 55, 3) := by decide +kernel
theorem d_Ref_grow_271 : decode b_Ref_grow 271 = .ok (.iload_n 1, 1) := by decide +kernel
theorem d_Ref_grow_272 : decode b_Ref_grow 272 = .ok (.dup2, 1) := by decide +kernel
theorem d_Ref_grow_273 : decode b_Ref_grow 273 = .ok (.iaload, 1) := by decide +kernel
theorem d_Ref_grow_274 : decode b_Ref_grow 274 = .ok (.iconst 1, 1) := by decide +kernel
theorem d_Ref_grow_275 : decode b_Ref_grow 275 = .ok (.iadd, 1) := by decide +kernel
theorem d_Ref_grow_276 : decode b_Ref_grow 276 = .ok (.iastore, 1) := by decide +kernel
theorem d_Ref_grow_277 : decode b_Ref_grow 277 = .ok (.aload_n 0, 1) := by decide +kernel
theorem d_Ref_grow_278 : decode b_Ref_grow 278 = .ok (.aload_n 0, 1) := by decide +kernel
theorem d_Ref_grow_279 : decode b_Ref_grow 279 = .ok (.getfield 7, 3) := by decide +kernel
theorem d_Ref_grow_282 : decode b_Ref_grow 282 = .ok (.iload 6, 2) := by decide +kernel
theorem d_Ref_grow_284 : decode b_Ref_grow 284 = .ok (.iaload, 1) := by decide +kernel
theorem d_Ref_grow_285 : decode b_Ref_grow 285 = .ok (.iload 4, 2) := by decide +kernel
theorem d_Ref_grow_287 : decode b_Ref_grow 287 = .ok (.iload 7, 2) := by decide +kernel
theorem d_Ref_grow_289 : decode b_Ref_grow 289 = .ok (.invokevirtual 146, 3) := by decide +kernel
theorem d_Ref_grow_292 : decode b_Ref_grow 292 = .ok (.iload 7, 2) := by decide +kernel
theorem d_Ref_grow_294 : decode b_Ref_grow 294 = .ok (.istore 4, 2) := by decide +kernel
theorem d_Ref_grow_296 : decode b_Ref_grow 296 = .ok (.iinc 5 1, 3) := by decide +kernel
theorem d_Ref_grow_299 : decode b_Ref_grow 299 = .ok (.goto (-163), 3) := by decide +kernel
theorem d_Ref_grow_302 : decode b_Ref_grow 302 = .ok (.return_, 1) := by decide +kernel
abbrev b_Ref_find : ByteArray := prog_8_method_15_code
def y_Ref_find : MethodName := ⟨"SyntaxTreesModel", "find", "(I)V"⟩
def w_Ref_find : List Cond := .code y_Ref_find b_Ref_find 8 none :: TBL
theorem hd_Ref_find : y_Ref_find.cls = "SyntaxTreesModel" ∧ y_Ref_find.cls ≠ "java/lang/invoke/MethodHandle" ∧ y_Ref_find.cls ≠ "java/lang/invoke/VarHandle" ∧ (parseMethodDescriptor y_Ref_find.desc).map (fun d => d.parameters.length) = some 1 := by decide +kernel
theorem d_Ref_find_0 : decode b_Ref_find 0 = .ok (.iload_n 1, 1) := by decide +kernel
theorem d_Ref_find_1 : decode b_Ref_find 1 = .ok (.aload_n 0, 1) := by decide +kernel
theorem d_Ref_find_2 : decode b_Ref_find 2 = .ok (.getfield 98, 3) := by decide +kernel
theorem d_Ref_find_5 : decode b_Ref_find 5 = .ok (.if_icmp .ge 7, 3) := by decide +kernel
theorem d_Ref_find_8 : decode b_Ref_find 8 = .ok (.iload_n 1, 1) := by decide +kernel
theorem d_Ref_find_9 : decode b_Ref_find 9 = .ok (.goto 7, 3) := by decide +kernel
theorem d_Ref_find_12 : decode b_Ref_find 12 = .ok (.aload_n 0, 1) := by decide +kernel
theorem d_Ref_find_13 : decode b_Ref_find 13 = .ok (.getfield 98, 3) := by decide +kernel
theorem d_Ref_find_16 : decode b_Ref_find 16 = .ok (.istore_n 2, 1) := by decide +kernel
theorem d_Ref_find_17 : decode b_Ref_find 17 = .ok (.aload_n 0, 1) := by decide +kernel
theorem d_Ref_find_18 : decode b_Ref_find 18 = .ok (.getfield 87, 3) := by decide +kernel
theorem d_Ref_find_21 : decode b_Ref_find 21 = .ok (.ifCond .eq 12, 3) := by decide +kernel
theorem d_Ref_find_24 : decode b_Ref_find 24 = .ok (.aload_n 0, 1) := by decide +kernel
theorem d_Ref_find_25 : decode b_Ref_find 25 = .ok (.getfield 107, 3) := by decide +kernel
theorem d_Ref_find_28 : decode b_Ref_find 28 = .ok (.iload_n 2, 1) := by decide +kernel
theorem d_Ref_find_29 : decode b_Ref_find 29 = .ok (.if_icmp .ne 4, 3) := by decide +kernel
theorem d_Ref_find_32 : decode b_Ref_find 32 = .ok (.return_, 1) := by decide +kernel
theorem d_Ref_find_33 : decode b_Ref_find 33 = .ok (.aload_n 0, 1) := by decide +kernel
theorem d_Ref_find_34 : decode b_Ref_find 34 = .ok (.iconst 1, 1) := by decide +kernel
theorem d_Ref_find_35 : decode b_Ref_find 35 = .ok (.putfield 87, 3) := by decide +kernel
theorem d_Ref_find_38 : decode b_Ref_find 38 = .ok (.aload_n 0, 1) := by decide +kernel
theorem d_Ref_find_39 : decode b_Ref_find 39 = .ok (.iload_n 2, 1) := by decide +kernel
theorem d_Ref_find_40 : decode b_Ref_find 40 = .ok (.putfield 107, 3) := by decide +kernel
theorem d_Ref_find_43 : decode b_Ref_find 43 = .ok (.aload_n 0, 1) := by decide +kernel
theorem d_Ref_find_44 : decode b_Ref_find 44 = .ok (.getfield 104, 3) := by decide +kernel
theorem d_Ref_find_47 : decode b_Ref_find 47 = .ok (.iconst 1, 1) := by decide +kernel
theorem d_Ref_find_48 : decode b_Ref_find 48 = .ok (.isub, 1) := by decide +kernel
theorem d_Ref_find_49 : decode b_Ref_find 49 = .ok (.istore_n 3, 1) := by decide +kernel
theorem d_Ref_find_50 : decode b_Ref_find 50 = .ok (.iload_n 3, 1) := by decide +kernel
theorem d_Ref_find_51 : decode b_Ref_find 51 = .ok (.ifCond .lt 144, 3) := by decide +kernel
theorem d_Ref_find_54 : decode b_Ref_find 54 = .ok (.iconst 0, 1) := by decide +kernel
theorem d_Ref_find_55 : decode b_Ref_find 55 = .ok (.istore 4, 2) := by decide +kernel
theorem d_Ref_find_57 : decode b_Ref_find 57 = .ok (.iload 4, 2) := by decide +kernel
theorem d_Ref_find_59 : decode b_Ref_find 59 = .ok (.iload_n 2, 1) := by decide +kernel
theorem d_Ref_find_60 : decode b_Ref_find 60 = .ok (.if_icmp .ge 101, 3) := by decide +kernel
theorem d_Ref_find_63 : decode b_Ref_find 63 = .ok (.aload_n 0, 1) := by decide +kernel
theorem d_Ref_find_64 : decode b_Ref_find 64 = .ok (.iload 4, 2) := by decide +kernel
theorem d_Ref_find_66 : decode b_Ref_find 66 = .ok (.invokevirtual 110, 3) := by decide +kernel
theorem d_Ref_find_69 : decode b_Ref_find 69 = .ok (.istore 5, 2) := by decide +kernel
theorem d_Ref_find_71 : decode b_Ref_find 71 = .ok (.iconst 0, 1) := by decide +kernel
theorem d_Ref_find_72 : decode b_Ref_find 72 = .ok (.istore 6, 2) := by decide +kernel
theorem d_Ref_find_74 : decode b_Ref_find 74 = .ok (.iload 6, 2) := by decide +kernel
theorem d_Ref_find_76 : decode b_Ref_find 76 = .ok (.iload 5, 2) := by decide +kernel
theorem d_Ref_find_78 : decode b_Ref_find 78 = .ok (.if_icmp .gt 77, 3) := by decide +kernel
theorem d_Ref_find_81 : decode b_Ref_find 81 = .ok (.iload 5, 2) := by decide +kernel
theorem d_Ref_find_83 : decode b_Ref_find 83 = .ok (.aload_n 0, 1) := by decide +kernel
theorem d_Ref_find_84 : decode b_Ref_find 84 = .ok (.getfield 104, 3) := by decide +kernel
theorem d_Ref_find_87 : decode b_Ref_find 87 = .ok (.if_icmp .gt 68, 3) := by decide +kernel
theorem d_Ref_find_90 : decode b_Ref_find 90 = .ok (.iconst 0, 1) := by decide +kernel
theorem d_Ref_find_91 : decode b_Ref_find 91 = .ok (.istore 7, 2) := by decide +kernel
theorem d_Ref_find_93 : decode b_Ref_find 93 = .ok (.iload 7, 2) := by decide +kernel
theorem d_Ref_find_95 : decode b_Ref_find 95 = .ok (.aload_n 0, 1) := by decide +kernel
theorem d_Ref_find_96 : decode b_Ref_find 96 = .ok (.getfield 104, 3) := by decide +kernel
theorem d_Ref_find_99 : decode b_Ref_find 99 = .ok (.if_icmp .gt 50, 3) := by decide +kernel
theorem d_Ref_find_102 : decode b_Ref_find 102 = .ok (.aload_n 0, 1) := by decide +kernel
theorem d_Ref_find_103 : decode b_Ref_find 103 = .ok (.getfield 34, 3) := by decide +kernel
theorem d_Ref_find_106 : decode b_Ref_find 106 = .ok (.bipush 60, 2) := by decide +kernel
theorem d_Ref_find_108 : decode b_Ref_find 108 = .ok (.aload_n 0, 1) := by decide +kernel
theorem d_Ref_find_109 : decode b_Ref_find 109 = .ok (.getfield 19, 3) := by decide +kernel
theorem d_Ref_find_112 : decode b_Ref_find 112 = .ok (.iload 4, 2) := by decide +kernel
theorem d_Ref_find_114 : decode b_Ref_find 114 = .ok (.iaload, 1) := by decide +kernel
theorem d_Ref_find_115 : decode b_Ref_find 115 = .ok (.iload 4, 2) := by decide +kernel
theorem d_Ref_find_117 : decode b_Ref_find 117 = .ok (.iadd, 1) := by decide +kernel
theorem d_Ref_find_118 : decode b_Ref_find 118 = .ok (.iload 6, 2) := by decide +kernel
theorem d_Ref_find_120 : decode b_Ref_find 120 = .ok (.iadd, 1) := by decide +kernel
theorem d_Ref_find_121 : decode b_Ref_find 121 = .ok (.imul, 1) := by decide +kernel
theorem d_Ref_find_122 : decode b_Ref_find 122 = .ok (.iload 7, 2) := by decide +kernel
theorem d_Ref_find_124 : decode b_Ref_find 124 = .ok (.iadd, 1) := by decide +kernel
theorem d_Ref_find_125 : decode b_Ref_find 125 = .ok (.iload 6, 2) := by decide +kernel
theorem d_Ref_find_127 : decode b_Ref_find 127 = .ok (.ifCond .ne 13, 3) := by decide +kernel
theorem d_Ref_find_130 : decode b_Ref_find 130 = .ok (.iload 7, 2) := by decide +kernel
theorem d_Ref_find_132 : decode b_Ref_find 132 = .ok (.iload_n 3, 1) := by decide +kernel
theorem d_Ref_find_133 : decode b_Ref_find 133 = .ok (.if_icmp .ne 7, 3) := by decide +kernel
theorem d_Ref_find_136 : decode b_Ref_find 136 = .ok (.iconst 1, 1) := by decide +kernel
theorem d_Ref_find_137 : decode b_Ref_find 137 = .ok (.goto 4, 3) := by decide +kernel
theorem d_Ref_find_140 : decode b_Ref_find 140 = .ok (.iconst 0, 1) := by decide +kernel
theorem d_Ref_find_141 : decode b_Ref_find 141 = .ok (.i2b, 1) := by decide +kernel
theorem d_Ref_find_142 : decode b_Ref_find 142 = .ok (.bastore, 1) := by decide +kernel
theorem d_Ref_find_143 : decode b_Ref_find 143 = .ok (.iinc 7 1, 3) := by decide +kernel
theorem d_Ref_find_146 : decode b_Ref_find 146 = .ok (.goto (-53), 3) := by decide +kernel
theorem d_Ref_find_149 : decode b_Ref_find 149 = .ok (.iinc 6 1, 3) := by decide +kernel
theorem d_Ref_find_152 : decode b_Ref_find 152 = .ok (.goto (-78), 3) := by decide +kernel
theorem d_Ref_find_155 : decode b_Ref_find 155 = .ok (.iinc 4 1, 3) := by decide +kernel
theorem d_Ref_find_158 : decode b_Ref_find 158 = .ok (.goto (-101), 3) := by decide +kernel
theorem d_Ref_find_161 : decode b_Ref_find 161 = .ok (.iload_n 3, 1) := by decide +kernel
theorem d_Ref_find_162 : decode b_Ref_find 162 = .ok (.iconst 1, 1) := by decide +kernel
theorem d_Ref_find_163 : decode b_Ref_find 163 = .ok (.iadd, 1) := by decide +kernel
theorem d_Ref_find_164 : decode b_Ref_find 164 = .ok (.istore 4, 2) := by decide +kernel
theorem d_Ref_find_166 : decode b_Ref_find 166 = .ok (.iload 4, 2) := by decide +kernel
theorem d_Ref_find_168 : decode b_Ref_find 168 = .ok (.aload_n 0, 1) := by decide +kernel
theorem d_Ref_find_169 : decode b_Ref_find 169 = .ok (.getfield 104, 3) := by decide +kernel
theorem d_Ref_find_172 : decode b_Ref_find 172 = .ok (.if_icmp .gt 17, 3) := by decide +kernel
theorem d_Ref_find_175 : decode b_Ref_find 175 = .ok (.aload_n 0, 1) := by decide +kernel
theorem d_Ref_find_176 : decode b_Ref_find 176 = .ok (.iload_n 3, 1) := by decide +kernel
theorem d_Ref_find_177 : decode b_Ref_find 177 = .ok (.iload 4, 2) := by decide +kernel
theorem d_Ref_find_179 : decode b_Ref_find 179 = .ok (.iload_n 2, 1) := by decide +kernel
theorem d_Ref_find_180 : decode b_Ref_find 180 = .ok (.invokevirtual 114, 3) := by decide +kernel
theorem d_Ref_find_183 : decode b_Ref_find 183 = .ok (.iinc 4 1, 3) := by decide +kernel
theorem d_Ref_find_186 : decode b_Ref_find 186 = .ok (.goto (-20), 3) := by decide +kernel
theorem d_Ref_find_189 : decode b_Ref_find 189 = .ok (.iinc 3 (-1), 3) := by decide +kernel
theorem d_Ref_find_192 : decode b_Ref_find 192 = .ok (.goto (-142), 3) := by decide +kernel
theorem d_Ref_find_195 : decode b_Ref_find 195 = .ok (.return_, 1) := by decide +kernel
abbrev b_Ref_part : ByteArray := prog_8_method_20_code
def y_Ref_part : MethodName := ⟨"SyntaxTreesModel", "part", "(IIII)I"⟩
def w_Ref_part : List Cond := .code y_Ref_part b_Ref_part 5 (some .int) :: TBL
theorem hd_Ref_part : y_Ref_part.cls = "SyntaxTreesModel" ∧ y_Ref_part.cls ≠ "java/lang/invoke/MethodHandle" ∧ y_Ref_part.cls ≠ "java/lang/invoke/VarHandle" ∧ (parseMethodDescriptor y_Ref_part.desc).map (fun d => d.parameters.length) = some 4 := by decide +kernel
theorem d_Ref_part_0 : decode b_Ref_part 0 = .ok (.aload_n 0, 1) := by decide +kernel
theorem d_Ref_part_1 : decode b_Ref_part 1 = .ok (.iload_n 1, 1) := by decide +kernel
theorem d_Ref_part_2 : decode b_Ref_part 2 = .ok (.invokevirtual 78, 3) := by decide +kernel
theorem d_Ref_part_5 : decode b_Ref_part 5 = .ok (.ifCond .eq 22, 3) := by decide +kernel
theorem d_Ref_part_8 : decode b_Ref_part 8 = .ok (.iload_n 3, 1) := by decide +kernel
theorem d_Ref_part_9 : decode b_Ref_part 9 = .ok (.ifCond .lt 18, 3) := by decide +kernel
theorem d_Ref_part_12 : decode b_Ref_part 12 = .ok (.iload_n 3, 1) := by decide +kernel
theorem d_Ref_part_13 : decode b_Ref_part 13 = .ok (.iload 4, 2) := by decide +kernel
theorem d_Ref_part_15 : decode b_Ref_part 15 = .ok (.if_icmp .ge 12, 3) := by decide +kernel
theorem d_Ref_part_18 : decode b_Ref_part 18 = .ok (.iload 4, 2) := by decide +kernel
theorem d_Ref_part_20 : decode b_Ref_part 20 = .ok (.aload_n 0, 1) := by decide +kernel
theorem d_Ref_part_21 : decode b_Ref_part 21 = .ok (.getfield 104, 3) := by decide +kernel
theorem d_Ref_part_24 : decode b_Ref_part 24 = .ok (.if_icmp .le 5, 3) := by decide +kernel
theorem d_Ref_part_27 : decode b_Ref_part 27 = .ok (.iconst (-1), 1) := by decide +kernel
theorem d_Ref_part_28 : decode b_Ref_part 28 = .ok (.ireturn, 1) := by decide +kernel
theorem d_Ref_part_29 : decode b_Ref_part 29 = .ok (.aload_n 0, 1) := by decide +kernel
theorem d_Ref_part_30 : decode b_Ref_part 30 = .ok (.getfield 13, 3) := by decide +kernel
theorem d_Ref_part_33 : decode b_Ref_part 33 = .ok (.iload_n 1, 1) := by decide +kernel
theorem d_Ref_part_34 : decode b_Ref_part 34 = .ok (.iaload, 1) := by decide +kernel
theorem d_Ref_part_35 : decode b_Ref_part 35 = .ok (.iconst (-1), 1) := by decide +kernel
theorem d_Ref_part_36 : decode b_Ref_part 36 = .ok (.if_icmp .ne 5, 3) := by decide +kernel
theorem d_Ref_part_39 : decode b_Ref_part 39 = .ok (.iconst 0, 1) := by decide +kernel
theorem d_Ref_part_40 : decode b_Ref_part 40 = .ok (.ireturn, 1) := by decide +kernel
theorem d_Ref_part_41 : decode b_Ref_part 41 = .ok (.aload_n 0, 1) := by decide +kernel
theorem d_Ref_part_42 : decode b_Ref_part 42 = .ok (.iload_n 2, 1) := by decide +kernel
theorem d_Ref_part_43 : decode b_Ref_part 43 = .ok (.ifCond .ge 7, 3) := by decide +kernel
theorem d_Ref_part_46 : decode b_Ref_part 46 = .ok (.iconst 0, 1) := by decide +kernel
theorem d_Ref_part_47 : decode b_Ref_part 47 = .ok (.goto 4, 3) := by decide +kernel
theorem d_Ref_part_50 : decode b_Ref_part 50 = .ok (.iload_n 2, 1) := by decide +kernel
theorem d_Ref_part_51 : decode b_Ref_part 51 = .ok (.invokevirtual 136, 3) := by decide +kernel
theorem d_Ref_part_54 : decode b_Ref_part 54 = .ok (.aload_n 0, 1) := by decide +kernel
theorem d_Ref_part_55 : decode b_Ref_part 55 = .ok (.getfield 29, 3) := by decide +kernel
theorem d_Ref_part_58 : decode b_Ref_part 58 = .ok (.sipush 3600, 3) := by decide +kernel
theorem d_Ref_part_61 : decode b_Ref_part 61 = .ok (.aload_n 0, 1) := by decide +kernel
theorem d_Ref_part_62 : decode b_Ref_part 62 = .ok (.getfield 13, 3) := by decide +kernel
theorem d_Ref_part_65 : decode b_Ref_part 65 = .ok (.iload_n 1, 1) := by decide +kernel
theorem d_Ref_part_66 : decode b_Ref_part 66 = .ok (.iaload, 1) := by decide +kernel
theorem d_Ref_part_67 : decode b_Ref_part 67 = .ok (.imul, 1) := by decide +kernel
theorem d_Ref_part_68 : decode b_Ref_part 68 = .ok (.bipush 60, 2) := by decide +kernel
theorem d_Ref_part_70 : decode b_Ref_part 70 = .ok (.iload_n 3, 1) := by decide +kernel
theorem d_Ref_part_71 : decode b_Ref_part 71 = .ok (.imul, 1) := by decide +kernel
theorem d_Ref_part_72 : decode b_Ref_part 72 = .ok (.iadd, 1) := by decide +kernel
theorem d_Ref_part_73 : decode b_Ref_part 73 = .ok (.iload 4, 2) := by decide +kernel
theorem d_Ref_part_75 : decode b_Ref_part 75 = .ok (.iadd, 1) := by decide +kernel
theorem d_Ref_part_76 : decode b_Ref_part 76 = .ok (.baload, 1) := by decide +kernel
theorem d_Ref_part_77 : decode b_Ref_part 77 = .ok (.ireturn, 1) := by decide +kernel
abbrev b_Ref_trees : ByteArray := prog_8_method_19_code
def y_Ref_trees : MethodName := ⟨"SyntaxTreesModel", "trees", "(II)I"⟩
def w_Ref_trees : List Cond := .code y_Ref_trees b_Ref_trees 3 (some .int) :: TBL
theorem hd_Ref_trees : y_Ref_trees.cls = "SyntaxTreesModel" ∧ y_Ref_trees.cls ≠ "java/lang/invoke/MethodHandle" ∧ y_Ref_trees.cls ≠ "java/lang/invoke/VarHandle" ∧ (parseMethodDescriptor y_Ref_trees.desc).map (fun d => d.parameters.length) = some 2 := by decide +kernel
theorem d_Ref_trees_0 : decode b_Ref_trees 0 = .ok (.aload_n 0, 1) := by decide +kernel
theorem d_Ref_trees_1 : decode b_Ref_trees 1 = .ok (.iload_n 1, 1) := by decide +kernel
theorem d_Ref_trees_2 : decode b_Ref_trees 2 = .ok (.invokevirtual 78, 3) := by decide +kernel
theorem d_Ref_trees_5 : decode b_Ref_trees 5 = .ok (.ifCond .ne 5, 3) := by decide +kernel
theorem d_Ref_trees_8 : decode b_Ref_trees 8 = .ok (.iconst (-1), 1) := by decide +kernel
theorem d_Ref_trees_9 : decode b_Ref_trees 9 = .ok (.ireturn, 1) := by decide +kernel
theorem d_Ref_trees_10 : decode b_Ref_trees 10 = .ok (.aload_n 0, 1) := by decide +kernel
theorem d_Ref_trees_11 : decode b_Ref_trees 11 = .ok (.getfield 104, 3) := by decide +kernel
theorem d_Ref_trees_14 : decode b_Ref_trees 14 = .ok (.ifCond .ne 7, 3) := by decide +kernel
theorem d_Ref_trees_17 : decode b_Ref_trees 17 = .ok (.iconst 0, 1) := by decide +kernel
theorem d_Ref_trees_18 : decode b_Ref_trees 18 = .ok (.goto 14, 3) := by decide +kernel
theorem d_Ref_trees_21 : decode b_Ref_trees 21 = .ok (.aload_n 0, 1) := by decide +kernel
theorem d_Ref_trees_22 : decode b_Ref_trees 22 = .ok (.iload_n 1, 1) := by decide +kernel
theorem d_Ref_trees_23 : decode b_Ref_trees 23 = .ok (.iload_n 2, 1) := by decide +kernel
theorem d_Ref_trees_24 : decode b_Ref_trees 24 = .ok (.iconst 0, 1) := by decide +kernel
theorem d_Ref_trees_25 : decode b_Ref_trees 25 = .ok (.aload_n 0, 1) := by decide +kernel
theorem d_Ref_trees_26 : decode b_Ref_trees 26 = .ok (.getfield 104, 3) := by decide +kernel
theorem d_Ref_trees_29 : decode b_Ref_trees 29 = .ok (.invokevirtual 132, 3) := by decide +kernel
theorem d_Ref_trees_32 : decode b_Ref_trees 32 = .ok (.ireturn, 1) := by decide +kernel
abbrev b_Ref_make : ByteArray := prog_8_method_21_code
def y_Ref_make : MethodName := ⟨"SyntaxTreesModel", "make", "(II)I"⟩
def w_Ref_make : List Cond := .code y_Ref_make b_Ref_make 4 (some .int) :: TBL
theorem hd_Ref_make : y_Ref_make.cls = "SyntaxTreesModel" ∧ y_Ref_make.cls ≠ "java/lang/invoke/MethodHandle" ∧ y_Ref_make.cls ≠ "java/lang/invoke/VarHandle" ∧ (parseMethodDescriptor y_Ref_make.desc).map (fun d => d.parameters.length) = some 2 := by decide +kernel
theorem d_Ref_make_0 : decode b_Ref_make 0 = .ok (.aload_n 0, 1) := by decide +kernel
theorem d_Ref_make_1 : decode b_Ref_make 1 = .ok (.iload_n 1, 1) := by decide +kernel
theorem d_Ref_make_2 : decode b_Ref_make 2 = .ok (.iload_n 2, 1) := by decide +kernel
theorem d_Ref_make_3 : decode b_Ref_make 3 = .ok (.invokevirtual 139, 3) := by decide +kernel
theorem d_Ref_make_6 : decode b_Ref_make 6 = .ok (.iconst 1, 1) := by decide +kernel
theorem d_Ref_make_7 : decode b_Ref_make 7 = .ok (.if_icmp .eq 5, 3) := by decide +kernel
theorem d_Ref_make_10 : decode b_Ref_make 10 = .ok (.iconst (-1), 1) := by decide +kernel
theorem d_Ref_make_11 : decode b_Ref_make 11 = .ok (.ireturn, 1) := by decide +kernel
theorem d_Ref_make_12 : decode b_Ref_make 12 = .ok (.aload_n 0, 1) := by decide +kernel
theorem d_Ref_make_13 : decode b_Ref_make 13 = .ok (.iconst 0, 1) := by decide +kernel
theorem d_Ref_make_14 : decode b_Ref_make 14 = .ok (.putfield 143, 3) := by decide +kernel
theorem d_Ref_make_17 : decode b_Ref_make 17 = .ok (.aload_n 0, 1) := by decide +kernel
theorem d_Ref_make_18 : decode b_Ref_make 18 = .ok (.iload_n 1, 1) := by decide +kernel
theorem d_Ref_make_19 : decode b_Ref_make 19 = .ok (.iconst 0, 1) := by decide +kernel
theorem d_Ref_make_20 : decode b_Ref_make 20 = .ok (.aload_n 0, 1) := by decide +kernel
theorem d_Ref_make_21 : decode b_Ref_make 21 = .ok (.getfield 104, 3) := by decide +kernel
theorem d_Ref_make_24 : decode b_Ref_make 24 = .ok (.invokevirtual 146, 3) := by decide +kernel
theorem d_Ref_make_27 : decode b_Ref_make 27 = .ok (.iconst 0, 1) := by decide +kernel
theorem d_Ref_make_28 : decode b_Ref_make 28 = .ok (.istore_n 3, 1) := by decide +kernel
theorem d_Ref_make_29 : decode b_Ref_make 29 = .ok (.iload_n 3, 1) := by decide +kernel
theorem d_Ref_make_30 : decode b_Ref_make 30 = .ok (.aload_n 0, 1) := by decide +kernel
theorem d_Ref_make_31 : decode b_Ref_make 31 = .ok (.getfield 143, 3) := by decide +kernel
theorem d_Ref_make_34 : decode b_Ref_make 34 = .ok (.if_icmp .ge 14, 3) := by decide +kernel
theorem d_Ref_make_37 : decode b_Ref_make 37 = .ok (.aload_n 0, 1) := by decide +kernel
theorem d_Ref_make_38 : decode b_Ref_make 38 = .ok (.iload_n 3, 1) := by decide +kernel
theorem d_Ref_make_39 : decode b_Ref_make 39 = .ok (.invokevirtual 149, 3) := by decide +kernel
theorem d_Ref_make_42 : decode b_Ref_make 42 = .ok (.iinc 3 1, 3) := by decide +kernel
theorem d_Ref_make_45 : decode b_Ref_make 45 = .ok (.goto (-16), 3) := by decide +kernel
theorem d_Ref_make_48 : decode b_Ref_make 48 = .ok (.aload_n 0, 1) := by decide +kernel
theorem d_Ref_make_49 : decode b_Ref_make 49 = .ok (.invokevirtual 152, 3) := by decide +kernel
theorem d_Ref_make_52 : decode b_Ref_make 52 = .ok (.aload_n 0, 1) := by decide +kernel
theorem d_Ref_make_53 : decode b_Ref_make 53 = .ok (.getfield 143, 3) := by decide +kernel
theorem d_Ref_make_56 : decode b_Ref_make 56 = .ok (.ireturn, 1) := by decide +kernel
