abbrev b_Tree_init : ByteArray := prog_6_method_1_code
def y_Tree_init : MethodName := ⟨"SyntaxTrees$Tree", "<init>", "(LSyntaxTrees$Symbols;LSyntaxTrees$Rules;LSyntaxTrees$Chart;)V"⟩
def w_Tree_init : List Cond := .code y_Tree_init b_Tree_init 4 none :: TBL
theorem hd_Tree_init : y_Tree_init.cls = "SyntaxTrees$Tree" ∧ y_Tree_init.cls ≠ "java/lang/invoke/MethodHandle" ∧ y_Tree_init.cls ≠ "java/lang/invoke/VarHandle" ∧ (parseMethodDescriptor y_Tree_init.desc).map (fun d => d.parameters.length) = some 3 := by decide +kernel
theorem d_Tree_init_0 : decode b_Tree_init 0 = .ok (.aload_n 0, 1) := by decide +kernel
theorem d_Tree_init_1 : decode b_Tree_init 1 = .ok (.invokespecial 3, 3) := by decide +kernel
theorem d_Tree_init_4 : decode b_Tree_init 4 = .ok (.aload_n 0, 1) := by decide +kernel
theorem d_Tree_init_5 : decode b_Tree_init 5 = .ok (.new 9, 3) := by decide +kernel
theorem d_Tree_init_8 : decode b_Tree_init 8 = .ok (.dup, 1) := by decide +kernel
theorem d_Tree_init_9 : decode b_Tree_init 9 = .ok (.invokespecial 11, 3) := by decide +kernel
theorem d_Tree_init_12 : decode b_Tree_init 12 = .ok (.putfield 12, 3) := by decide +kernel
theorem d_Tree_init_15 : decode b_Tree_init 15 = .ok (.aload_n 0, 1) := by decide +kernel
theorem d_Tree_init_16 : decode b_Tree_init 16 = .ok (.sipush 11700, 3) := by decide +kernel
theorem d_Tree_init_19 : decode b_Tree_init 19 = .ok (.newarray .int, 2) := by decide +kernel
theorem d_Tree_init_21 : decode b_Tree_init 21 = .ok (.putfield 18, 3) := by decide +kernel
theorem d_Tree_init_24 : decode b_Tree_init 24 = .ok (.aload_n 0, 1) := by decide +kernel
theorem d_Tree_init_25 : decode b_Tree_init 25 = .ok (.sipush 11700, 3) := by decide +kernel
theorem d_Tree_init_28 : decode b_Tree_init 28 = .ok (.newarray .int, 2) := by decide +kernel
theorem d_Tree_init_30 : decode b_Tree_init 30 = .ok (.putfield 22, 3) := by decide +kernel
theorem d_Tree_init_33 : decode b_Tree_init 33 = .ok (.aload_n 0, 1) := by decide +kernel
theorem d_Tree_init_34 : decode b_Tree_init 34 = .ok (.sipush 11700, 3) := by decide +kernel
theorem d_Tree_init_37 : decode b_Tree_init 37 = .ok (.newarray .int, 2) := by decide +kernel
theorem d_Tree_init_39 : decode b_Tree_init 39 = .ok (.putfield 25, 3) := by decide +kernel
theorem d_Tree_init_42 : decode b_Tree_init 42 = .ok (.aload_n 0, 1) := by decide +kernel
theorem d_Tree_init_43 : decode b_Tree_init 43 = .ok (.sipush 11700, 3) := by decide +kernel
theorem d_Tree_init_46 : decode b_Tree_init 46 = .ok (.newarray .int, 2) := by decide +kernel
theorem d_Tree_init_48 : decode b_Tree_init 48 = .ok (.putfield 28, 3) := by decide +kernel
theorem d_Tree_init_51 : decode b_Tree_init 51 = .ok (.aload_n 0, 1) := by decide +kernel
theorem d_Tree_init_52 : decode b_Tree_init 52 = .ok (.sipush 11700, 3) := by decide +kernel
theorem d_Tree_init_55 : decode b_Tree_init 55 = .ok (.newarray .int, 2) := by decide +kernel
theorem d_Tree_init_57 : decode b_Tree_init 57 = .ok (.putfield 31, 3) := by decide +kernel
theorem d_Tree_init_60 : decode b_Tree_init 60 = .ok (.aload_n 0, 1) := by decide +kernel
theorem d_Tree_init_61 : decode b_Tree_init 61 = .ok (.sipush 11700, 3) := by decide +kernel
theorem d_Tree_init_64 : decode b_Tree_init 64 = .ok (.newarray .int, 2) := by decide +kernel
theorem d_Tree_init_66 : decode b_Tree_init 66 = .ok (.putfield 34, 3) := by decide +kernel
theorem d_Tree_init_69 : decode b_Tree_init 69 = .ok (.aload_n 0, 1) := by decide +kernel
theorem d_Tree_init_70 : decode b_Tree_init 70 = .ok (.sipush 11700, 3) := by decide +kernel
theorem d_Tree_init_73 : decode b_Tree_init 73 = .ok (.newarray .int, 2) := by decide +kernel
theorem d_Tree_init_75 : decode b_Tree_init 75 = .ok (.putfield 37, 3) := by decide +kernel
theorem d_Tree_init_78 : decode b_Tree_init 78 = .ok (.aload_n 0, 1) := by decide +kernel
theorem d_Tree_init_79 : decode b_Tree_init 79 = .ok (.sipush 11700, 3) := by decide +kernel
theorem d_Tree_init_82 : decode b_Tree_init 82 = .ok (.newarray .int, 2) := by decide +kernel
theorem d_Tree_init_84 : decode b_Tree_init 84 = .ok (.putfield 40, 3) := by decide +kernel
theorem d_Tree_init_87 : decode b_Tree_init 87 = .ok (.aload_n 0, 1) := by decide +kernel
theorem d_Tree_init_88 : decode b_Tree_init 88 = .ok (.sipush 11700, 3) := by decide +kernel
theorem d_Tree_init_91 : decode b_Tree_init 91 = .ok (.newarray .int, 2) := by decide +kernel
theorem d_Tree_init_93 : decode b_Tree_init 93 = .ok (.putfield 43, 3) := by decide +kernel
theorem d_Tree_init_96 : decode b_Tree_init 96 = .ok (.aload_n 0, 1) := by decide +kernel
theorem d_Tree_init_97 : decode b_Tree_init 97 = .ok (.sipush 300, 3) := by decide +kernel
theorem d_Tree_init_100 : decode b_Tree_init 100 = .ok (.newarray .long, 2) := by decide +kernel
theorem d_Tree_init_102 : decode b_Tree_init 102 = .ok (.putfield 46, 3) := by decide +kernel
theorem d_Tree_init_105 : decode b_Tree_init 105 = .ok (.aload_n 0, 1) := by decide +kernel
theorem d_Tree_init_106 : decode b_Tree_init 106 = .ok (.aload_n 1, 1) := by decide +kernel
theorem d_Tree_init_107 : decode b_Tree_init 107 = .ok (.putfield 50, 3) := by decide +kernel
theorem d_Tree_init_110 : decode b_Tree_init 110 = .ok (.aload_n 0, 1) := by decide +kernel
theorem d_Tree_init_111 : decode b_Tree_init 111 = .ok (.aload_n 2, 1) := by decide +kernel
theorem d_Tree_init_112 : decode b_Tree_init 112 = .ok (.putfield 54, 3) := by decide +kernel
theorem d_Tree_init_115 : decode b_Tree_init 115 = .ok (.aload_n 0, 1) := by decide +kernel
theorem d_Tree_init_116 : decode b_Tree_init 116 = .ok (.aload_n 3, 1) := by decide +kernel
theorem d_Tree_init_117 : decode b_Tree_init 117 = .ok (.putfield 58, 3) := by decide +kernel
theorem d_Tree_init_120 : decode b_Tree_init 120 = .ok (.return_, 1) := by decide +kernel
abbrev b_Tree_size : ByteArray := prog_6_method_2_code
def y_Tree_size : MethodName := ⟨"SyntaxTrees$Tree", "size", "()I"⟩
def w_Tree_size : List Cond := .code y_Tree_size b_Tree_size 1 (some .int) :: TBL
theorem hd_Tree_size : y_Tree_size.cls = "SyntaxTrees$Tree" ∧ y_Tree_size.cls ≠ "java/lang/invoke/MethodHandle" ∧ y_Tree_size.cls ≠ "java/lang/invoke/VarHandle" ∧ (parseMethodDescriptor y_Tree_size.desc).map (fun d => d.parameters.length) = some 0 := by decide +kernel
theorem d_Tree_size_0 : decode b_Tree_size 0 = .ok (.aload_n 0, 1) := by decide +kernel
theorem d_Tree_size_1 : decode b_Tree_size 1 = .ok (.getfield 62, 3) := by decide +kernel
theorem d_Tree_size_4 : decode b_Tree_size 4 = .ok (.ireturn, 1) := by decide +kernel
abbrev b_Tree_toldAt : ByteArray := prog_6_method_3_code
def y_Tree_toldAt : MethodName := ⟨"SyntaxTrees$Tree", "toldAt", "(I)I"⟩
def w_Tree_toldAt : List Cond := .code y_Tree_toldAt b_Tree_toldAt 2 (some .int) :: TBL
theorem hd_Tree_toldAt : y_Tree_toldAt.cls = "SyntaxTrees$Tree" ∧ y_Tree_toldAt.cls ≠ "java/lang/invoke/MethodHandle" ∧ y_Tree_toldAt.cls ≠ "java/lang/invoke/VarHandle" ∧ (parseMethodDescriptor y_Tree_toldAt.desc).map (fun d => d.parameters.length) = some 1 := by decide +kernel
theorem d_Tree_toldAt_0 : decode b_Tree_toldAt 0 = .ok (.iload_n 1, 1) := by decide +kernel
theorem d_Tree_toldAt_1 : decode b_Tree_toldAt 1 = .ok (.ifCond .lt 20, 3) := by decide +kernel
theorem d_Tree_toldAt_4 : decode b_Tree_toldAt 4 = .ok (.iload_n 1, 1) := by decide +kernel
theorem d_Tree_toldAt_5 : decode b_Tree_toldAt 5 = .ok (.aload_n 0, 1) := by decide +kernel
theorem d_Tree_toldAt_6 : decode b_Tree_toldAt 6 = .ok (.getfield 62, 3) := by decide +kernel
theorem d_Tree_toldAt_9 : decode b_Tree_toldAt 9 = .ok (.if_icmp .ge 12, 3) := by decide +kernel
theorem d_Tree_toldAt_12 : decode b_Tree_toldAt 12 = .ok (.aload_n 0, 1) := by decide +kernel
theorem d_Tree_toldAt_13 : decode b_Tree_toldAt 13 = .ok (.getfield 43, 3) := by decide +kernel
theorem d_Tree_toldAt_16 : decode b_Tree_toldAt 16 = .ok (.iload_n 1, 1) := by decide +kernel
theorem d_Tree_toldAt_17 : decode b_Tree_toldAt 17 = .ok (.iaload, 1) := by decide +kernel
theorem d_Tree_toldAt_18 : decode b_Tree_toldAt 18 = .ok (.goto 4, 3) := by decide +kernel
theorem d_Tree_toldAt_21 : decode b_Tree_toldAt 21 = .ok (.iconst (-1), 1) := by decide +kernel
theorem d_Tree_toldAt_22 : decode b_Tree_toldAt 22 = .ok (.ireturn, 1) := by decide +kernel
abbrev b_Tree_detail : ByteArray := prog_6_method_4_code
def y_Tree_detail : MethodName := ⟨"SyntaxTrees$Tree", "detail", "(II)I"⟩
def w_Tree_detail : List Cond := .code y_Tree_detail b_Tree_detail 3 (some .int) :: TBL
theorem hd_Tree_detail : y_Tree_detail.cls = "SyntaxTrees$Tree" ∧ y_Tree_detail.cls ≠ "java/lang/invoke/MethodHandle" ∧ y_Tree_detail.cls ≠ "java/lang/invoke/VarHandle" ∧ (parseMethodDescriptor y_Tree_detail.desc).map (fun d => d.parameters.length) = some 2 := by decide +kernel
theorem d_Tree_detail_0 : decode b_Tree_detail 0 = .ok (.iload_n 1, 1) := by decide +kernel
theorem d_Tree_detail_1 : decode b_Tree_detail 1 = .ok (.ifCond .lt 11, 3) := by decide +kernel
theorem d_Tree_detail_4 : decode b_Tree_detail 4 = .ok (.iload_n 1, 1) := by decide +kernel
theorem d_Tree_detail_5 : decode b_Tree_detail 5 = .ok (.aload_n 0, 1) := by decide +kernel
theorem d_Tree_detail_6 : decode b_Tree_detail 6 = .ok (.getfield 62, 3) := by decide +kernel
theorem d_Tree_detail_9 : decode b_Tree_detail 9 = .ok (.if_icmp .lt 5, 3) := by decide +kernel
theorem d_Tree_detail_12 : decode b_Tree_detail 12 = .ok (.iconst (-1), 1) := by decide +kernel
theorem d_Tree_detail_13 : decode b_Tree_detail 13 = .ok (.ireturn, 1) := by decide +kernel
theorem d_Tree_detail_14 : decode b_Tree_detail 14 = .ok (.iload_n 2, 1) := by decide +kernel
theorem d_Tree_detail_15 : decode b_Tree_detail 15 = .ok (.tableswitch 79 0 5 #[37, 44, 51, 58, 65, 72], 37) := by decide +kernel
theorem d_Tree_detail_52 : decode b_Tree_detail 52 = .ok (.aload_n 0, 1) := by decide +kernel
theorem d_Tree_detail_53 : decode b_Tree_detail 53 = .ok (.getfield 18, 3) := by decide +kernel
theorem d_Tree_detail_56 : decode b_Tree_detail 56 = .ok (.iload_n 1, 1) := by decide +kernel
theorem d_Tree_detail_57 : decode b_Tree_detail 57 = .ok (.iaload, 1) := by decide +kernel
theorem d_Tree_detail_58 : decode b_Tree_detail 58 = .ok (.ireturn, 1) := by decide +kernel
theorem d_Tree_detail_59 : decode b_Tree_detail 59 = .ok (.aload_n 0, 1) := by decide +kernel
theorem d_Tree_detail_60 : decode b_Tree_detail 60 = .ok (.getfield 22, 3) := by decide +kernel
theorem d_Tree_detail_63 : decode b_Tree_detail 63 = .ok (.iload_n 1, 1) := by decide +kernel
theorem d_Tree_detail_64 : decode b_Tree_detail 64 = .ok (.iaload, 1) := by decide +kernel
theorem d_Tree_detail_65 : decode b_Tree_detail 65 = .ok (.ireturn, 1) := by decide +kernel
theorem d_Tree_detail_66 : decode b_Tree_detail 66 = .ok (.aload_n 0, 1) := by decide +kernel
theorem d_Tree_detail_67 : decode b_Tree_detail 67 = .ok (.getfield 25, 3) := by decide +kernel
theorem d_Tree_detail_70 : decode b_Tree_detail 70 = .ok (.iload_n 1, 1) := by decide +kernel
theorem d_Tree_detail_71 : decode b_Tree_detail 71 = .ok (.iaload, 1) := by decide +kernel
theorem d_Tree_detail_72 : decode b_Tree_detail 72 = .ok (.ireturn, 1) := by decide +kernel
theorem d_Tree_detail_73 : decode b_Tree_detail 73 = .ok (.aload_n 0, 1) := by decide +kernel
theorem d_Tree_detail_74 : decode b_Tree_detail 74 = .ok (.getfield 28, 3) := by decide +kernel
theorem d_Tree_detail_77 : decode b_Tree_detail 77 = .ok (.iload_n 1, 1) := by decide +kernel
theorem d_Tree_detail_78 : decode b_Tree_detail 78 = .ok (.iaload, 1) := by decide +kernel
theorem d_Tree_detail_79 : decode b_Tree_detail 79 = .ok (.ireturn, 1) := by decide +kernel
theorem d_Tree_detail_80 : decode b_Tree_detail 80 = .ok (.aload_n 0, 1) := by decide +kernel
theorem d_Tree_detail_81 : decode b_Tree_detail 81 = .ok (.getfield 31, 3) := by decide +kernel
theorem d_Tree_detail_84 : decode b_Tree_detail 84 = .ok (.iload_n 1, 1) := by decide +kernel
theorem d_Tree_detail_85 : decode b_Tree_detail 85 = .ok (.iaload, 1) := by decide +kernel
theorem d_Tree_detail_86 : decode b_Tree_detail 86 = .ok (.ireturn, 1) := by decide +kernel
theorem d_Tree_detail_87 : decode b_Tree_detail 87 = .ok (.aload_n 0, 1) := by decide +kernel
theorem d_Tree_detail_88 : decode b_Tree_detail 88 = .ok (.getfield 34, 3) := by decide +kernel
theorem d_Tree_detail_91 : decode b_Tree_detail 91 = .ok (.iload_n 1, 1) := by decide +kernel
theorem d_Tree_detail_92 : decode b_Tree_detail 92 = .ok (.iaload, 1) := by decide +kernel
theorem d_Tree_detail_93 : decode b_Tree_detail 93 = .ok (.ireturn, 1) := by decide +kernel
theorem d_Tree_detail_94 : decode b_Tree_detail 94 = .ok (.iconst (-1), 1) := by decide +kernel
theorem d_Tree_detail_95 : decode b_Tree_detail 95 = .ok (.ireturn, 1) := by decide +kernel
abbrev b_Tree_append : ByteArray := prog_6_method_7_code
def y_Tree_append : MethodName := ⟨"SyntaxTrees$Tree", "append", "(III)Z"⟩
def w_Tree_append : List Cond := .code y_Tree_append b_Tree_append 4 (some .boolean) :: TBL
theorem hd_Tree_append : y_Tree_append.cls = "SyntaxTrees$Tree" ∧ y_Tree_append.cls ≠ "java/lang/invoke/MethodHandle" ∧ y_Tree_append.cls ≠ "java/lang/invoke/VarHandle" ∧ (parseMethodDescriptor y_Tree_append.desc).map (fun d => d.parameters.length) = some 3 := by decide +kernel
theorem d_Tree_append_0 : decode b_Tree_append 0 = .ok (.aload_n 0, 1) := by decide +kernel
theorem d_Tree_append_1 : decode b_Tree_append 1 = .ok (.getfield 62, 3) := by decide +kernel
theorem d_Tree_append_4 : decode b_Tree_append 4 = .ok (.sipush 11700, 3) := by decide +kernel
theorem d_Tree_append_7 : decode b_Tree_append 7 = .ok (.if_icmp .lt 5, 3) := by decide +kernel
theorem d_Tree_append_10 : decode b_Tree_append 10 = .ok (.iconst 0, 1) := by decide +kernel
theorem d_Tree_append_11 : decode b_Tree_append 11 = .ok (.ireturn, 1) := by decide +kernel
theorem d_Tree_append_12 : decode b_Tree_append 12 = .ok (.aload_n 0, 1) := by decide +kernel
theorem d_Tree_append_13 : decode b_Tree_append 13 = .ok (.getfield 18, 3) := by decide +kernel
theorem d_Tree_append_16 : decode b_Tree_append 16 = .ok (.aload_n 0, 1) := by decide +kernel
theorem d_Tree_append_17 : decode b_Tree_append 17 = .ok (.getfield 62, 3) := by decide +kernel
theorem d_Tree_append_20 : decode b_Tree_append 20 = .ok (.iconst (-1), 1) := by decide +kernel
theorem d_Tree_append_21 : decode b_Tree_append 21 = .ok (.iastore, 1) := by decide +kernel
theorem d_Tree_append_22 : decode b_Tree_append 22 = .ok (.aload_n 0, 1) := by decide +kernel
theorem d_Tree_append_23 : decode b_Tree_append 23 = .ok (.getfield 22, 3) := by decide +kernel
theorem d_Tree_append_26 : decode b_Tree_append 26 = .ok (.aload_n 0, 1) := by decide +kernel
theorem d_Tree_append_27 : decode b_Tree_append 27 = .ok (.getfield 62, 3) := by decide +kernel
theorem d_Tree_append_30 : decode b_Tree_append 30 = .ok (.iload_n 1, 1) := by decide +kernel
theorem d_Tree_append_31 : decode b_Tree_append 31 = .ok (.iastore, 1) := by decide +kernel
theorem d_Tree_append_32 : decode b_Tree_append 32 = .ok (.aload_n 0, 1) := by decide +kernel
theorem d_Tree_append_33 : decode b_Tree_append 33 = .ok (.getfield 25, 3) := by decide +kernel
theorem d_Tree_append_36 : decode b_Tree_append 36 = .ok (.aload_n 0, 1) := by decide +kernel
theorem d_Tree_append_37 : decode b_Tree_append 37 = .ok (.getfield 62, 3) := by decide +kernel
theorem d_Tree_append_40 : decode b_Tree_append 40 = .ok (.iload_n 2, 1) := by decide +kernel
theorem d_Tree_append_41 : decode b_Tree_append 41 = .ok (.iastore, 1) := by decide +kernel
theorem d_Tree_append_42 : decode b_Tree_append 42 = .ok (.aload_n 0, 1) := by decide +kernel
theorem d_Tree_append_43 : decode b_Tree_append 43 = .ok (.getfield 28, 3) := by decide +kernel
theorem d_Tree_append_46 : decode b_Tree_append 46 = .ok (.aload_n 0, 1) := by decide +kernel
theorem d_Tree_append_47 : decode b_Tree_append 47 = .ok (.getfield 62, 3) := by decide +kernel
theorem d_Tree_append_50 : decode b_Tree_append 50 = .ok (.iload_n 3, 1) := by decide +kernel
theorem d_Tree_append_51 : decode b_Tree_append 51 = .ok (.iastore, 1) := by decide +kernel
theorem d_Tree_append_52 : decode b_Tree_append 52 = .ok (.aload_n 0, 1) := by decide +kernel
theorem d_Tree_append_53 : decode b_Tree_append 53 = .ok (.getfield 31, 3) := by decide +kernel
theorem d_Tree_append_56 : decode b_Tree_append 56 = .ok (.aload_n 0, 1) := by decide +kernel
theorem d_Tree_append_57 : decode b_Tree_append 57 = .ok (.getfield 62, 3) := by decide +kernel
theorem d_Tree_append_60 : decode b_Tree_append 60 = .ok (.iconst (-1), 1) := by decide +kernel
theorem d_Tree_append_61 : decode b_Tree_append 61 = .ok (.iastore, 1) := by decide +kernel
theorem d_Tree_append_62 : decode b_Tree_append 62 = .ok (.aload_n 0, 1) := by decide +kernel
theorem d_Tree_append_63 : decode b_Tree_append 63 = .ok (.getfield 34, 3) := by decide +kernel
theorem d_Tree_append_66 : decode b_Tree_append 66 = .ok (.aload_n 0, 1) := by decide +kernel
theorem d_Tree_append_67 : decode b_Tree_append 67 = .ok (.getfield 62, 3) := by decide +kernel
theorem d_Tree_append_70 : decode b_Tree_append 70 = .ok (.iconst 0, 1) := by decide +kernel
theorem d_Tree_append_71 : decode b_Tree_append 71 = .ok (.iastore, 1) := by decide +kernel
theorem d_Tree_append_72 : decode b_Tree_append 72 = .ok (.aload_n 0, 1) := by decide +kernel
theorem d_Tree_append_73 : decode b_Tree_append 73 = .ok (.dup, 1) := by decide +kernel
theorem d_Tree_append_74 : decode b_Tree_append 74 = .ok (.getfield 62, 3) := by decide +kernel
theorem d_Tree_append_77 : decode b_Tree_append 77 = .ok (.iconst 1, 1) := by decide +kernel
theorem d_Tree_append_78 : decode b_Tree_append 78 = .ok (.iadd, 1) := by decide +kernel
theorem d_Tree_append_79 : decode b_Tree_append 79 = .ok (.putfield 62, 3) := by decide +kernel
theorem d_Tree_append_82 : decode b_Tree_append 82 = .ok (.iconst 1, 1) := by decide +kernel
theorem d_Tree_append_83 : decode b_Tree_append 83 = .ok (.ireturn, 1) := by decide +kernel
abbrev b_Tree_isVariableAlone : ByteArray := prog_6_method_9_code
def y_Tree_isVariableAlone : MethodName := ⟨"SyntaxTrees$Tree", "isVariableAlone", "(I)Z"⟩
def w_Tree_isVariableAlone : List Cond := .code y_Tree_isVariableAlone b_Tree_isVariableAlone 3 (some .boolean) :: TBL
theorem hd_Tree_isVariableAlone : y_Tree_isVariableAlone.cls = "SyntaxTrees$Tree" ∧ y_Tree_isVariableAlone.cls ≠ "java/lang/invoke/MethodHandle" ∧ y_Tree_isVariableAlone.cls ≠ "java/lang/invoke/VarHandle" ∧ (parseMethodDescriptor y_Tree_isVariableAlone.desc).map (fun d => d.parameters.length) = some 1 := by decide +kernel
theorem d_Tree_isVariableAlone_0 : decode b_Tree_isVariableAlone 0 = .ok (.aload_n 0, 1) := by decide +kernel
theorem d_Tree_isVariableAlone_1 : decode b_Tree_isVariableAlone 1 = .ok (.getfield 12, 3) := by decide +kernel
theorem d_Tree_isVariableAlone_4 : decode b_Tree_isVariableAlone 4 = .ok (.aload_n 0, 1) := by decide +kernel
theorem d_Tree_isVariableAlone_5 : decode b_Tree_isVariableAlone 5 = .ok (.getfield 25, 3) := by decide +kernel
theorem d_Tree_isVariableAlone_8 : decode b_Tree_isVariableAlone 8 = .ok (.iload_n 1, 1) := by decide +kernel
theorem d_Tree_isVariableAlone_9 : decode b_Tree_isVariableAlone 9 = .ok (.iaload, 1) := by decide +kernel
theorem d_Tree_isVariableAlone_10 : decode b_Tree_isVariableAlone 10 = .ok (.invokevirtual 106, 3) := by decide +kernel
theorem d_Tree_isVariableAlone_13 : decode b_Tree_isVariableAlone 13 = .ok (.istore_n 2, 1) := by decide +kernel
theorem d_Tree_isVariableAlone_14 : decode b_Tree_isVariableAlone 14 = .ok (.aload_n 0, 1) := by decide +kernel
theorem d_Tree_isVariableAlone_15 : decode b_Tree_isVariableAlone 15 = .ok (.getfield 28, 3) := by decide +kernel
theorem d_Tree_isVariableAlone_18 : decode b_Tree_isVariableAlone 18 = .ok (.iload_n 1, 1) := by decide +kernel
theorem d_Tree_isVariableAlone_19 : decode b_Tree_isVariableAlone 19 = .ok (.iaload, 1) := by decide +kernel
theorem d_Tree_isVariableAlone_20 : decode b_Tree_isVariableAlone 20 = .ok (.aload_n 0, 1) := by decide +kernel
theorem d_Tree_isVariableAlone_21 : decode b_Tree_isVariableAlone 21 = .ok (.getfield 25, 3) := by decide +kernel
theorem d_Tree_isVariableAlone_24 : decode b_Tree_isVariableAlone 24 = .ok (.iload_n 1, 1) := by decide +kernel
theorem d_Tree_isVariableAlone_25 : decode b_Tree_isVariableAlone 25 = .ok (.iaload, 1) := by decide +kernel
theorem d_Tree_isVariableAlone_26 : decode b_Tree_isVariableAlone 26 = .ok (.iconst 1, 1) := by decide +kernel
theorem d_Tree_isVariableAlone_27 : decode b_Tree_isVariableAlone 27 = .ok (.iadd, 1) := by decide +kernel
theorem d_Tree_isVariableAlone_28 : decode b_Tree_isVariableAlone 28 = .ok (.if_icmp .ne 35, 3) := by decide +kernel
theorem d_Tree_isVariableAlone_31 : decode b_Tree_isVariableAlone 31 = .ok (.aload_n 0, 1) := by decide +kernel
theorem d_Tree_isVariableAlone_32 : decode b_Tree_isVariableAlone 32 = .ok (.getfield 50, 3) := by decide +kernel
theorem d_Tree_isVariableAlone_35 : decode b_Tree_isVariableAlone 35 = .ok (.iload_n 2, 1) := by decide +kernel
theorem d_Tree_isVariableAlone_36 : decode b_Tree_isVariableAlone 36 = .ok (.invokevirtual 109, 3) := by decide +kernel
theorem d_Tree_isVariableAlone_39 : decode b_Tree_isVariableAlone 39 = .ok (.ifCond .eq 24, 3) := by decide +kernel
theorem d_Tree_isVariableAlone_42 : decode b_Tree_isVariableAlone 42 = .ok (.aload_n 0, 1) := by decide +kernel
theorem d_Tree_isVariableAlone_43 : decode b_Tree_isVariableAlone 43 = .ok (.getfield 50, 3) := by decide +kernel
theorem d_Tree_isVariableAlone_46 : decode b_Tree_isVariableAlone 46 = .ok (.iload_n 2, 1) := by decide +kernel
theorem d_Tree_isVariableAlone_47 : decode b_Tree_isVariableAlone 47 = .ok (.invokevirtual 114, 3) := by decide +kernel
theorem d_Tree_isVariableAlone_50 : decode b_Tree_isVariableAlone 50 = .ok (.aload_n 0, 1) := by decide +kernel
theorem d_Tree_isVariableAlone_51 : decode b_Tree_isVariableAlone 51 = .ok (.getfield 22, 3) := by decide +kernel
theorem d_Tree_isVariableAlone_54 : decode b_Tree_isVariableAlone 54 = .ok (.iload_n 1, 1) := by decide +kernel
theorem d_Tree_isVariableAlone_55 : decode b_Tree_isVariableAlone 55 = .ok (.iaload, 1) := by decide +kernel
theorem d_Tree_isVariableAlone_56 : decode b_Tree_isVariableAlone 56 = .ok (.if_icmp .ne 7, 3) := by decide +kernel
theorem d_Tree_isVariableAlone_59 : decode b_Tree_isVariableAlone 59 = .ok (.iconst 1, 1) := by decide +kernel
theorem d_Tree_isVariableAlone_60 : decode b_Tree_isVariableAlone 60 = .ok (.goto 4, 3) := by decide +kernel
theorem d_Tree_isVariableAlone_63 : decode b_Tree_isVariableAlone 63 = .ok (.iconst 0, 1) := by decide +kernel
theorem d_Tree_isVariableAlone_64 : decode b_Tree_isVariableAlone 64 = .ok (.ireturn, 1) := by decide +kernel
abbrev b_Tree_startsOf : ByteArray := prog_6_method_11_code
def y_Tree_startsOf : MethodName := ⟨"SyntaxTrees$Tree", "startsOf", "(IJ)J"⟩
def w_Tree_startsOf : List Cond := .code y_Tree_startsOf b_Tree_startsOf 7 (some .long) :: TBL
theorem hd_Tree_startsOf : y_Tree_startsOf.cls = "SyntaxTrees$Tree" ∧ y_Tree_startsOf.cls ≠ "java/lang/invoke/MethodHandle" ∧ y_Tree_startsOf.cls ≠ "java/lang/invoke/VarHandle" ∧ (parseMethodDescriptor y_Tree_startsOf.desc).map (fun d => d.parameters.length) = some 2 := by decide +kernel
theorem d_Tree_startsOf_0 : decode b_Tree_startsOf 0 = .ok (.lconst 0, 1) := by decide +kernel
theorem d_Tree_startsOf_1 : decode b_Tree_startsOf 1 = .ok (.lstore 4, 2) := by decide +kernel
theorem d_Tree_startsOf_3 : decode b_Tree_startsOf 3 = .ok (.iconst 1, 1) := by decide +kernel
theorem d_Tree_startsOf_4 : decode b_Tree_startsOf 4 = .ok (.istore 6, 2) := by decide +kernel
theorem d_Tree_startsOf_6 : decode b_Tree_startsOf 6 = .ok (.iload 6, 2) := by decide +kernel
theorem d_Tree_startsOf_8 : decode b_Tree_startsOf 8 = .ok (.aload_n 0, 1) := by decide +kernel
theorem d_Tree_startsOf_9 : decode b_Tree_startsOf 9 = .ok (.getfield 12, 3) := by decide +kernel
theorem d_Tree_startsOf_12 : decode b_Tree_startsOf 12 = .ok (.invokevirtual 70, 3) := by decide +kernel
theorem d_Tree_startsOf_15 : decode b_Tree_startsOf 15 = .ok (.if_icmp .gt 33, 3) := by decide +kernel
theorem d_Tree_startsOf_18 : decode b_Tree_startsOf 18 = .ok (.lload_n 2, 1) := by decide +kernel
theorem d_Tree_startsOf_19 : decode b_Tree_startsOf 19 = .ok (.iload 6, 2) := by decide +kernel
theorem d_Tree_startsOf_21 : decode b_Tree_startsOf 21 = .ok (.invokestatic 132, 3) := by decide +kernel
theorem d_Tree_startsOf_24 : decode b_Tree_startsOf 24 = .ok (.ifCond .eq 18, 3) := by decide +kernel
theorem d_Tree_startsOf_27 : decode b_Tree_startsOf 27 = .ok (.lload 4, 2) := by decide +kernel
theorem d_Tree_startsOf_29 : decode b_Tree_startsOf 29 = .ok (.aload_n 0, 1) := by decide +kernel
theorem d_Tree_startsOf_30 : decode b_Tree_startsOf 30 = .ok (.getfield 58, 3) := by decide +kernel
theorem d_Tree_startsOf_33 : decode b_Tree_startsOf 33 = .ok (.iload_n 1, 1) := by decide +kernel
theorem d_Tree_startsOf_34 : decode b_Tree_startsOf 34 = .ok (.iload 6, 2) := by decide +kernel
theorem d_Tree_startsOf_36 : decode b_Tree_startsOf 36 = .ok (.invokevirtual 136, 3) := by decide +kernel
theorem d_Tree_startsOf_39 : decode b_Tree_startsOf 39 = .ok (.lor, 1) := by decide +kernel
theorem d_Tree_startsOf_40 : decode b_Tree_startsOf 40 = .ok (.lstore 4, 2) := by decide +kernel
theorem d_Tree_startsOf_42 : decode b_Tree_startsOf 42 = .ok (.iinc 6 1, 3) := by decide +kernel
theorem d_Tree_startsOf_45 : decode b_Tree_startsOf 45 = .ok (.goto (-39), 3) := by decide +kernel
theorem d_Tree_startsOf_48 : decode b_Tree_startsOf 48 = .ok (.lload 4, 2) := by decide +kernel
theorem d_Tree_startsOf_50 : decode b_Tree_startsOf 50 = .ok (.lreturn, 1) := by decide +kernel
abbrev b_Tree_endAmong : ByteArray := prog_6_method_13_code
def y_Tree_endAmong : MethodName := ⟨"SyntaxTrees$Tree", "endAmong", "(JII)I"⟩
def w_Tree_endAmong : List Cond := .code y_Tree_endAmong b_Tree_endAmong 6 (some .int) :: TBL
theorem hd_Tree_endAmong : y_Tree_endAmong.cls = "SyntaxTrees$Tree" ∧ y_Tree_endAmong.cls ≠ "java/lang/invoke/MethodHandle" ∧ y_Tree_endAmong.cls ≠ "java/lang/invoke/VarHandle" ∧ (parseMethodDescriptor y_Tree_endAmong.desc).map (fun d => d.parameters.length) = some 3 := by decide +kernel
theorem d_Tree_endAmong_0 : decode b_Tree_endAmong 0 = .ok (.iload 4, 2) := by decide +kernel
theorem d_Tree_endAmong_2 : decode b_Tree_endAmong 2 = .ok (.iconst 1, 1) := by decide +kernel
theorem d_Tree_endAmong_3 : decode b_Tree_endAmong 3 = .ok (.iadd, 1) := by decide +kernel
theorem d_Tree_endAmong_4 : decode b_Tree_endAmong 4 = .ok (.istore 5, 2) := by decide +kernel
theorem d_Tree_endAmong_6 : decode b_Tree_endAmong 6 = .ok (.iload 5, 2) := by decide +kernel
theorem d_Tree_endAmong_8 : decode b_Tree_endAmong 8 = .ok (.aload_n 0, 1) := by decide +kernel
theorem d_Tree_endAmong_9 : decode b_Tree_endAmong 9 = .ok (.getfield 12, 3) := by decide +kernel
theorem d_Tree_endAmong_12 : decode b_Tree_endAmong 12 = .ok (.invokevirtual 70, 3) := by decide +kernel
theorem d_Tree_endAmong_15 : decode b_Tree_endAmong 15 = .ok (.if_icmp .ge 39, 3) := by decide +kernel
theorem d_Tree_endAmong_18 : decode b_Tree_endAmong 18 = .ok (.lload_n 1, 1) := by decide +kernel
theorem d_Tree_endAmong_19 : decode b_Tree_endAmong 19 = .ok (.iload 5, 2) := by decide +kernel
theorem d_Tree_endAmong_21 : decode b_Tree_endAmong 21 = .ok (.invokestatic 132, 3) := by decide +kernel
theorem d_Tree_endAmong_24 : decode b_Tree_endAmong 24 = .ok (.ifCond .eq 24, 3) := by decide +kernel
theorem d_Tree_endAmong_27 : decode b_Tree_endAmong 27 = .ok (.aload_n 0, 1) := by decide +kernel
theorem d_Tree_endAmong_28 : decode b_Tree_endAmong 28 = .ok (.getfield 58, 3) := by decide +kernel
theorem d_Tree_endAmong_31 : decode b_Tree_endAmong 31 = .ok (.iload_n 3, 1) := by decide +kernel
theorem d_Tree_endAmong_32 : decode b_Tree_endAmong 32 = .ok (.iload 5, 2) := by decide +kernel
theorem d_Tree_endAmong_34 : decode b_Tree_endAmong 34 = .ok (.invokevirtual 136, 3) := by decide +kernel
theorem d_Tree_endAmong_37 : decode b_Tree_endAmong 37 = .ok (.iload 4, 2) := by decide +kernel
theorem d_Tree_endAmong_39 : decode b_Tree_endAmong 39 = .ok (.invokestatic 132, 3) := by decide +kernel
theorem d_Tree_endAmong_42 : decode b_Tree_endAmong 42 = .ok (.ifCond .eq 6, 3) := by decide +kernel
theorem d_Tree_endAmong_45 : decode b_Tree_endAmong 45 = .ok (.iload 5, 2) := by decide +kernel
theorem d_Tree_endAmong_47 : decode b_Tree_endAmong 47 = .ok (.ireturn, 1) := by decide +kernel
theorem d_Tree_endAmong_48 : decode b_Tree_endAmong 48 = .ok (.iinc 5 1, 3) := by decide +kernel
theorem d_Tree_endAmong_51 : decode b_Tree_endAmong 51 = .ok (.goto (-45), 3) := by decide +kernel
theorem d_Tree_endAmong_54 : decode b_Tree_endAmong 54 = .ok (.aload_n 0, 1) := by decide +kernel
theorem d_Tree_endAmong_55 : decode b_Tree_endAmong 55 = .ok (.getfield 12, 3) := by decide +kernel
theorem d_Tree_endAmong_58 : decode b_Tree_endAmong 58 = .ok (.invokevirtual 70, 3) := by decide +kernel
theorem d_Tree_endAmong_61 : decode b_Tree_endAmong 61 = .ok (.ireturn, 1) := by decide +kernel
abbrev b_Tree_weigh : ByteArray := prog_6_method_14_code
def y_Tree_weigh : MethodName := ⟨"SyntaxTrees$Tree", "weigh", "()V"⟩
def w_Tree_weigh : List Cond := .code y_Tree_weigh b_Tree_weigh 3 none :: TBL
theorem hd_Tree_weigh : y_Tree_weigh.cls = "SyntaxTrees$Tree" ∧ y_Tree_weigh.cls ≠ "java/lang/invoke/MethodHandle" ∧ y_Tree_weigh.cls ≠ "java/lang/invoke/VarHandle" ∧ (parseMethodDescriptor y_Tree_weigh.desc).map (fun d => d.parameters.length) = some 0 := by decide +kernel
theorem d_Tree_weigh_0 : decode b_Tree_weigh 0 = .ok (.aload_n 0, 1) := by decide +kernel
theorem d_Tree_weigh_1 : decode b_Tree_weigh 1 = .ok (.getfield 62, 3) := by decide +kernel
theorem d_Tree_weigh_4 : decode b_Tree_weigh 4 = .ok (.iconst 1, 1) := by decide +kernel
theorem d_Tree_weigh_5 : decode b_Tree_weigh 5 = .ok (.isub, 1) := by decide +kernel
theorem d_Tree_weigh_6 : decode b_Tree_weigh 6 = .ok (.istore_n 1, 1) := by decide +kernel
theorem d_Tree_weigh_7 : decode b_Tree_weigh 7 = .ok (.iload_n 1, 1) := by decide +kernel
theorem d_Tree_weigh_8 : decode b_Tree_weigh 8 = .ok (.ifCond .lt 56, 3) := by decide +kernel
theorem d_Tree_weigh_11 : decode b_Tree_weigh 11 = .ok (.aload_n 0, 1) := by decide +kernel
theorem d_Tree_weigh_12 : decode b_Tree_weigh 12 = .ok (.getfield 37, 3) := by decide +kernel
theorem d_Tree_weigh_15 : decode b_Tree_weigh 15 = .ok (.iload_n 1, 1) := by decide +kernel
theorem d_Tree_weigh_16 : decode b_Tree_weigh 16 = .ok (.iconst 1, 1) := by decide +kernel
theorem d_Tree_weigh_17 : decode b_Tree_weigh 17 = .ok (.iastore, 1) := by decide +kernel
theorem d_Tree_weigh_18 : decode b_Tree_weigh 18 = .ok (.iconst 0, 1) := by decide +kernel
theorem d_Tree_weigh_19 : decode b_Tree_weigh 19 = .ok (.istore_n 2, 1) := by decide +kernel
theorem d_Tree_weigh_20 : decode b_Tree_weigh 20 = .ok (.iload_n 2, 1) := by decide +kernel
theorem d_Tree_weigh_21 : decode b_Tree_weigh 21 = .ok (.aload_n 0, 1) := by decide +kernel
theorem d_Tree_weigh_22 : decode b_Tree_weigh 22 = .ok (.getfield 34, 3) := by decide +kernel
theorem d_Tree_weigh_25 : decode b_Tree_weigh 25 = .ok (.iload_n 1, 1) := by decide +kernel
theorem d_Tree_weigh_26 : decode b_Tree_weigh 26 = .ok (.iaload, 1) := by decide +kernel
theorem d_Tree_weigh_27 : decode b_Tree_weigh 27 = .ok (.if_icmp .ge 31, 3) := by decide +kernel
theorem d_Tree_weigh_30 : decode b_Tree_weigh 30 = .ok (.aload_n 0, 1) := by decide +kernel
theorem d_Tree_weigh_31 : decode b_Tree_weigh 31 = .ok (.getfield 37, 3) := by decide +kernel
theorem d_Tree_weigh_34 : decode b_Tree_weigh 34 = .ok (.iload_n 1, 1) := by decide +kernel
theorem d_Tree_weigh_35 : decode b_Tree_weigh 35 = .ok (.dup2, 1) := by decide +kernel
theorem d_Tree_weigh_36 : decode b_Tree_weigh 36 = .ok (.iaload, 1) := by decide +kernel
theorem d_Tree_weigh_37 : decode b_Tree_weigh 37 = .ok (.aload_n 0, 1) := by decide +kernel
theorem d_Tree_weigh_38 : decode b_Tree_weigh 38 = .ok (.getfield 37, 3) := by decide +kernel
theorem d_Tree_weigh_41 : decode b_Tree_weigh 41 = .ok (.aload_n 0, 1) := by decide +kernel
theorem d_Tree_weigh_42 : decode b_Tree_weigh 42 = .ok (.getfield 31, 3) := by decide +kernel
theorem d_Tree_weigh_45 : decode b_Tree_weigh 45 = .ok (.iload_n 1, 1) := by decide +kernel
theorem d_Tree_weigh_46 : decode b_Tree_weigh 46 = .ok (.iaload, 1) := by decide +kernel
theorem d_Tree_weigh_47 : decode b_Tree_weigh 47 = .ok (.iload_n 2, 1) := by decide +kernel
theorem d_Tree_weigh_48 : decode b_Tree_weigh 48 = .ok (.iadd, 1) := by decide +kernel
theorem d_Tree_weigh_49 : decode b_Tree_weigh 49 = .ok (.iaload, 1) := by decide +kernel
theorem d_Tree_weigh_50 : decode b_Tree_weigh 50 = .ok (.iadd, 1) := by decide +kernel
theorem d_Tree_weigh_51 : decode b_Tree_weigh 51 = .ok (.iastore, 1) := by decide +kernel
theorem d_Tree_weigh_52 : decode b_Tree_weigh 52 = .ok (.iinc 2 1, 3) := by decide +kernel
theorem d_Tree_weigh_55 : decode b_Tree_weigh 55 = .ok (.goto (-35), 3) := by decide +kernel
theorem d_Tree_weigh_58 : decode b_Tree_weigh 58 = .ok (.iinc 1 (-1), 3) := by decide +kernel
theorem d_Tree_weigh_61 : decode b_Tree_weigh 61 = .ok (.goto (-54), 3) := by decide +kernel
theorem d_Tree_weigh_64 : decode b_Tree_weigh 64 = .ok (.return_, 1) := by decide +kernel
abbrev b_Tree_tell : ByteArray := prog_6_method_15_code
def y_Tree_tell : MethodName := ⟨"SyntaxTrees$Tree", "tell", "()V"⟩
def w_Tree_tell : List Cond := .code y_Tree_tell b_Tree_tell 4 none :: TBL
theorem hd_Tree_tell : y_Tree_tell.cls = "SyntaxTrees$Tree" ∧ y_Tree_tell.cls ≠ "java/lang/invoke/MethodHandle" ∧ y_Tree_tell.cls ≠ "java/lang/invoke/VarHandle" ∧ (parseMethodDescriptor y_Tree_tell.desc).map (fun d => d.parameters.length) = some 0 := by decide +kernel
theorem d_Tree_tell_0 : decode b_Tree_tell 0 = .ok (.aload_n 0, 1) := by decide +kernel
theorem d_Tree_tell_1 : decode b_Tree_tell 1 = .ok (.getfield 40, 3) := by decide +kernel
theorem d_Tree_tell_4 : decode b_Tree_tell 4 = .ok (.iconst 0, 1) := by decide +kernel
theorem d_Tree_tell_5 : decode b_Tree_tell 5 = .ok (.iconst 0, 1) := by decide +kernel
theorem d_Tree_tell_6 : decode b_Tree_tell 6 = .ok (.iastore, 1) := by decide +kernel
theorem d_Tree_tell_7 : decode b_Tree_tell 7 = .ok (.iconst 0, 1) := by decide +kernel
theorem d_Tree_tell_8 : decode b_Tree_tell 8 = .ok (.istore_n 1, 1) := by decide +kernel
theorem d_Tree_tell_9 : decode b_Tree_tell 9 = .ok (.iload_n 1, 1) := by decide +kernel
theorem d_Tree_tell_10 : decode b_Tree_tell 10 = .ok (.aload_n 0, 1) := by decide +kernel
theorem d_Tree_tell_11 : decode b_Tree_tell 11 = .ok (.getfield 62, 3) := by decide +kernel
theorem d_Tree_tell_14 : decode b_Tree_tell 14 = .ok (.if_icmp .ge 105, 3) := by decide +kernel
theorem d_Tree_tell_17 : decode b_Tree_tell 17 = .ok (.aload_n 0, 1) := by decide +kernel
theorem d_Tree_tell_18 : decode b_Tree_tell 18 = .ok (.getfield 40, 3) := by decide +kernel
theorem d_Tree_tell_21 : decode b_Tree_tell 21 = .ok (.iload_n 1, 1) := by decide +kernel
theorem d_Tree_tell_22 : decode b_Tree_tell 22 = .ok (.iaload, 1) := by decide +kernel
theorem d_Tree_tell_23 : decode b_Tree_tell 23 = .ok (.istore_n 2, 1) := by decide +kernel
theorem d_Tree_tell_24 : decode b_Tree_tell 24 = .ok (.iconst 0, 1) := by decide +kernel
theorem d_Tree_tell_25 : decode b_Tree_tell 25 = .ok (.istore_n 3, 1) := by decide +kernel
theorem d_Tree_tell_26 : decode b_Tree_tell 26 = .ok (.iload_n 3, 1) := by decide +kernel
theorem d_Tree_tell_27 : decode b_Tree_tell 27 = .ok (.aload_n 0, 1) := by decide +kernel
theorem d_Tree_tell_28 : decode b_Tree_tell 28 = .ok (.getfield 34, 3) := by decide +kernel
theorem d_Tree_tell_31 : decode b_Tree_tell 31 = .ok (.iload_n 1, 1) := by decide +kernel
theorem d_Tree_tell_32 : decode b_Tree_tell 32 = .ok (.iaload, 1) := by decide +kernel
theorem d_Tree_tell_33 : decode b_Tree_tell 33 = .ok (.if_icmp .ge 39, 3) := by decide +kernel
theorem d_Tree_tell_36 : decode b_Tree_tell 36 = .ok (.aload_n 0, 1) := by decide +kernel
theorem d_Tree_tell_37 : decode b_Tree_tell 37 = .ok (.getfield 40, 3) := by decide +kernel
theorem d_Tree_tell_40 : decode b_Tree_tell 40 = .ok (.aload_n 0, 1) := by decide +kernel
theorem d_Tree_tell_41 : decode b_Tree_tell 41 = .ok (.getfield 31, 3) := by decide +kernel
theorem d_Tree_tell_44 : decode b_Tree_tell 44 = .ok (.iload_n 1, 1) := by decide +kernel
theorem d_Tree_tell_45 : decode b_Tree_tell 45 = .ok (.iaload, 1) := by decide +kernel
theorem d_Tree_tell_46 : decode b_Tree_tell 46 = .ok (.iload_n 3, 1) := by decide +kernel
theorem d_Tree_tell_47 : decode b_Tree_tell 47 = .ok (.iadd, 1) := by decide +kernel
theorem d_Tree_tell_48 : decode b_Tree_tell 48 = .ok (.iload_n 2, 1) := by decide +kernel
theorem d_Tree_tell_49 : decode b_Tree_tell 49 = .ok (.iastore, 1) := by decide +kernel
theorem d_Tree_tell_50 : decode b_Tree_tell 50 = .ok (.iload_n 2, 1) := by decide +kernel
theorem d_Tree_tell_51 : decode b_Tree_tell 51 = .ok (.aload_n 0, 1) := by decide +kernel
theorem d_Tree_tell_52 : decode b_Tree_tell 52 = .ok (.getfield 37, 3) := by decide +kernel
theorem d_Tree_tell_55 : decode b_Tree_tell 55 = .ok (.aload_n 0, 1) := by decide +kernel
theorem d_Tree_tell_56 : decode b_Tree_tell 56 = .ok (.getfield 31, 3) := by decide +kernel
theorem d_Tree_tell_59 : decode b_Tree_tell 59 = .ok (.iload_n 1, 1) := by decide +kernel
theorem d_Tree_tell_60 : decode b_Tree_tell 60 = .ok (.iaload, 1) := by decide +kernel
theorem d_Tree_tell_61 : decode b_Tree_tell 61 = .ok (.iload_n 3, 1) := by decide +kernel
theorem d_Tree_tell_62 : decode b_Tree_tell 62 = .ok (.iadd, 1) := by decide +kernel
theorem d_Tree_tell_63 : decode b_Tree_tell 63 = .ok (.iaload, 1) := by decide +kernel
theorem d_Tree_tell_64 : decode b_Tree_tell 64 = .ok (.iadd, 1) := by decide +kernel
theorem d_Tree_tell_65 : decode b_Tree_tell 65 = .ok (.istore_n 2, 1) := by decide +kernel
theorem d_Tree_tell_66 : decode b_Tree_tell 66 = .ok (.iinc 3 1, 3) := by decide +kernel
theorem d_Tree_tell_69 : decode b_Tree_tell 69 = .ok (.goto (-43), 3) := by decide +kernel
theorem d_Tree_tell_72 : decode b_Tree_tell 72 = .ok (.aload_n 0, 1) := by decide +kernel
theorem d_Tree_tell_73 : decode b_Tree_tell 73 = .ok (.getfield 43, 3) := by decide +kernel
theorem d_Tree_tell_76 : decode b_Tree_tell 76 = .ok (.iload_n 2, 1) := by decide +kernel
theorem d_Tree_tell_77 : decode b_Tree_tell 77 = .ok (.aload_n 0, 1) := by decide +kernel
theorem d_Tree_tell_78 : decode b_Tree_tell 78 = .ok (.getfield 18, 3) := by decide +kernel
theorem d_Tree_tell_81 : decode b_Tree_tell 81 = .ok (.iload_n 1, 1) := by decide +kernel
theorem d_Tree_tell_82 : decode b_Tree_tell 82 = .ok (.iaload, 1) := by decide +kernel
theorem d_Tree_tell_83 : decode b_Tree_tell 83 = .ok (.iconst (-1), 1) := by decide +kernel
theorem d_Tree_tell_84 : decode b_Tree_tell 84 = .ok (.if_icmp .ne 22, 3) := by decide +kernel
theorem d_Tree_tell_87 : decode b_Tree_tell 87 = .ok (.bipush (-2), 2) := by decide +kernel
theorem d_Tree_tell_89 : decode b_Tree_tell 89 = .ok (.aload_n 0, 1) := by decide +kernel
theorem d_Tree_tell_90 : decode b_Tree_tell 90 = .ok (.getfield 12, 3) := by decide +kernel
theorem d_Tree_tell_93 : decode b_Tree_tell 93 = .ok (.aload_n 0, 1) := by decide +kernel
theorem d_Tree_tell_94 : decode b_Tree_tell 94 = .ok (.getfield 25, 3) := by decide +kernel
theorem d_Tree_tell_97 : decode b_Tree_tell 97 = .ok (.iload_n 1, 1) := by decide +kernel
theorem d_Tree_tell_98 : decode b_Tree_tell 98 = .ok (.iaload, 1) := by decide +kernel
theorem d_Tree_tell_99 : decode b_Tree_tell 99 = .ok (.invokevirtual 106, 3) := by decide +kernel
theorem d_Tree_tell_102 : decode b_Tree_tell 102 = .ok (.isub, 1) := by decide +kernel
theorem d_Tree_tell_103 : decode b_Tree_tell 103 = .ok (.goto 9, 3) := by decide +kernel
theorem d_Tree_tell_106 : decode b_Tree_tell 106 = .ok (.aload_n 0, 1) := by decide +kernel
theorem d_Tree_tell_107 : decode b_Tree_tell 107 = .ok (.getfield 18, 3) := by decide +kernel
theorem d_Tree_tell_110 : decode b_Tree_tell 110 = .ok (.iload_n 1, 1) := by decide +kernel
theorem d_Tree_tell_111 : decode b_Tree_tell 111 = .ok (.iaload, 1) := by decide +kernel
theorem d_Tree_tell_112 : decode b_Tree_tell 112 = .ok (.iastore, 1) := by decide +kernel
theorem d_Tree_tell_113 : decode b_Tree_tell 113 = .ok (.iinc 1 1, 3) := by decide +kernel
theorem d_Tree_tell_116 : decode b_Tree_tell 116 = .ok (.goto (-107), 3) := by decide +kernel
theorem d_Tree_tell_119 : decode b_Tree_tell 119 = .ok (.return_, 1) := by decide +kernel
abbrev b_Tree_isPart : ByteArray := prog_6_method_17_code
def y_Tree_isPart : MethodName := ⟨"SyntaxTrees$Tree", "isPart", "(III)Z"⟩
def w_Tree_isPart : List Cond := .code y_Tree_isPart b_Tree_isPart 4 (some .boolean) :: TBL
theorem hd_Tree_isPart : y_Tree_isPart.cls = "SyntaxTrees$Tree" ∧ y_Tree_isPart.cls ≠ "java/lang/invoke/MethodHandle" ∧ y_Tree_isPart.cls ≠ "java/lang/invoke/VarHandle" ∧ (parseMethodDescriptor y_Tree_isPart.desc).map (fun d => d.parameters.length) = some 3 := by decide +kernel
theorem d_Tree_isPart_0 : decode b_Tree_isPart 0 = .ok (.iload_n 1, 1) := by decide +kernel
theorem d_Tree_isPart_1 : decode b_Tree_isPart 1 = .ok (.ifCond .le 42, 3) := by decide +kernel
theorem d_Tree_isPart_4 : decode b_Tree_isPart 4 = .ok (.iload_n 1, 1) := by decide +kernel
theorem d_Tree_isPart_5 : decode b_Tree_isPart 5 = .ok (.aload_n 0, 1) := by decide +kernel
theorem d_Tree_isPart_6 : decode b_Tree_isPart 6 = .ok (.getfield 62, 3) := by decide +kernel
theorem d_Tree_isPart_9 : decode b_Tree_isPart 9 = .ok (.if_icmp .ge 34, 3) := by decide +kernel
theorem d_Tree_isPart_12 : decode b_Tree_isPart 12 = .ok (.aload_n 0, 1) := by decide +kernel
theorem d_Tree_isPart_13 : decode b_Tree_isPart 13 = .ok (.getfield 22, 3) := by decide +kernel
theorem d_Tree_isPart_16 : decode b_Tree_isPart 16 = .ok (.iload_n 1, 1) := by decide +kernel
theorem d_Tree_isPart_17 : decode b_Tree_isPart 17 = .ok (.iaload, 1) := by decide +kernel
theorem d_Tree_isPart_18 : decode b_Tree_isPart 18 = .ok (.aload_n 0, 1) := by decide +kernel
theorem d_Tree_isPart_19 : decode b_Tree_isPart 19 = .ok (.getfield 50, 3) := by decide +kernel
theorem d_Tree_isPart_22 : decode b_Tree_isPart 22 = .ok (.iload_n 2, 1) := by decide +kernel
theorem d_Tree_isPart_23 : decode b_Tree_isPart 23 = .ok (.invokevirtual 114, 3) := by decide +kernel
theorem d_Tree_isPart_26 : decode b_Tree_isPart 26 = .ok (.if_icmp .ne 17, 3) := by decide +kernel
theorem d_Tree_isPart_29 : decode b_Tree_isPart 29 = .ok (.aload_n 0, 1) := by decide +kernel
theorem d_Tree_isPart_30 : decode b_Tree_isPart 30 = .ok (.getfield 25, 3) := by decide +kernel
theorem d_Tree_isPart_33 : decode b_Tree_isPart 33 = .ok (.iload_n 1, 1) := by decide +kernel
theorem d_Tree_isPart_34 : decode b_Tree_isPart 34 = .ok (.iaload, 1) := by decide +kernel
theorem d_Tree_isPart_35 : decode b_Tree_isPart 35 = .ok (.iload_n 3, 1) := by decide +kernel
theorem d_Tree_isPart_36 : decode b_Tree_isPart 36 = .ok (.if_icmp .ne 7, 3) := by decide +kernel
theorem d_Tree_isPart_39 : decode b_Tree_isPart 39 = .ok (.iconst 1, 1) := by decide +kernel
theorem d_Tree_isPart_40 : decode b_Tree_isPart 40 = .ok (.goto 4, 3) := by decide +kernel
theorem d_Tree_isPart_43 : decode b_Tree_isPart 43 = .ok (.iconst 0, 1) := by decide +kernel
theorem d_Tree_isPart_44 : decode b_Tree_isPart 44 = .ok (.ireturn, 1) := by decide +kernel
abbrev b_Tree_fits : ByteArray := prog_6_method_10_code
def y_Tree_fits : MethodName := ⟨"SyntaxTrees$Tree", "fits", "(III)Z"⟩
def w_Tree_fits : List Cond := .code y_Tree_fits b_Tree_fits 7 (some .boolean) :: TBL
theorem hd_Tree_fits : y_Tree_fits.cls = "SyntaxTrees$Tree" ∧ y_Tree_fits.cls ≠ "java/lang/invoke/MethodHandle" ∧ y_Tree_fits.cls ≠ "java/lang/invoke/VarHandle" ∧ (parseMethodDescriptor y_Tree_fits.desc).map (fun d => d.parameters.length) = some 3 := by decide +kernel
theorem d_Tree_fits_0 : decode b_Tree_fits 0 = .ok (.aload_n 0, 1) := by decide +kernel
theorem d_Tree_fits_1 : decode b_Tree_fits 1 = .ok (.getfield 54, 3) := by decide +kernel
theorem d_Tree_fits_4 : decode b_Tree_fits 4 = .ok (.iload_n 1, 1) := by decide +kernel
theorem d_Tree_fits_5 : decode b_Tree_fits 5 = .ok (.invokevirtual 117, 3) := by decide +kernel
theorem d_Tree_fits_8 : decode b_Tree_fits 8 = .ok (.istore 4, 2) := by decide +kernel
theorem d_Tree_fits_10 : decode b_Tree_fits 10 = .ok (.iload 4, 2) := by decide +kernel
theorem d_Tree_fits_12 : decode b_Tree_fits 12 = .ok (.iload_n 3, 1) := by decide +kernel
theorem d_Tree_fits_13 : decode b_Tree_fits 13 = .ok (.iload_n 2, 1) := by decide +kernel
theorem d_Tree_fits_14 : decode b_Tree_fits 14 = .ok (.isub, 1) := by decide +kernel
theorem d_Tree_fits_15 : decode b_Tree_fits 15 = .ok (.if_icmp .gt 11, 3) := by decide +kernel
theorem d_Tree_fits_18 : decode b_Tree_fits 18 = .ok (.iload 4, 2) := by decide +kernel
theorem d_Tree_fits_20 : decode b_Tree_fits 20 = .ok (.sipush 299, 3) := by decide +kernel
theorem d_Tree_fits_23 : decode b_Tree_fits 23 = .ok (.if_icmp .le 5, 3) := by decide +kernel
theorem d_Tree_fits_26 : decode b_Tree_fits 26 = .ok (.iconst 0, 1) := by decide +kernel
theorem d_Tree_fits_27 : decode b_Tree_fits 27 = .ok (.ireturn, 1) := by decide +kernel
theorem d_Tree_fits_28 : decode b_Tree_fits 28 = .ok (.aload_n 0, 1) := by decide +kernel
theorem d_Tree_fits_29 : decode b_Tree_fits 29 = .ok (.getfield 54, 3) := by decide +kernel
theorem d_Tree_fits_32 : decode b_Tree_fits 32 = .ok (.iload_n 1, 1) := by decide +kernel
theorem d_Tree_fits_33 : decode b_Tree_fits 33 = .ok (.invokevirtual 120, 3) := by decide +kernel
theorem d_Tree_fits_36 : decode b_Tree_fits 36 = .ok (.istore 5, 2) := by decide +kernel
theorem d_Tree_fits_38 : decode b_Tree_fits 38 = .ok (.aload_n 0, 1) := by decide +kernel
theorem d_Tree_fits_39 : decode b_Tree_fits 39 = .ok (.getfield 46, 3) := by decide +kernel
theorem d_Tree_fits_42 : decode b_Tree_fits 42 = .ok (.iload 4, 2) := by decide +kernel
theorem d_Tree_fits_44 : decode b_Tree_fits 44 = .ok (.iload_n 3, 1) := by decide +kernel
theorem d_Tree_fits_45 : decode b_Tree_fits 45 = .ok (.invokestatic 123, 3) := by decide +kernel
theorem d_Tree_fits_48 : decode b_Tree_fits 48 = .ok (.lastore, 1) := by decide +kernel
theorem d_Tree_fits_49 : decode b_Tree_fits 49 = .ok (.iload 4, 2) := by decide +kernel
theorem d_Tree_fits_51 : decode b_Tree_fits 51 = .ok (.iconst 1, 1) := by decide +kernel
theorem d_Tree_fits_52 : decode b_Tree_fits 52 = .ok (.isub, 1) := by decide +kernel
theorem d_Tree_fits_53 : decode b_Tree_fits 53 = .ok (.istore 6, 2) := by decide +kernel
theorem d_Tree_fits_55 : decode b_Tree_fits 55 = .ok (.iload 6, 2) := by decide +kernel
theorem d_Tree_fits_57 : decode b_Tree_fits 57 = .ok (.ifCond .lt 41, 3) := by decide +kernel
theorem d_Tree_fits_60 : decode b_Tree_fits 60 = .ok (.aload_n 0, 1) := by decide +kernel
theorem d_Tree_fits_61 : decode b_Tree_fits 61 = .ok (.getfield 46, 3) := by decide +kernel
theorem d_Tree_fits_64 : decode b_Tree_fits 64 = .ok (.iload 6, 2) := by decide +kernel
theorem d_Tree_fits_66 : decode b_Tree_fits 66 = .ok (.aload_n 0, 1) := by decide +kernel
theorem d_Tree_fits_67 : decode b_Tree_fits 67 = .ok (.aload_n 0, 1) := by decide +kernel
theorem d_Tree_fits_68 : decode b_Tree_fits 68 = .ok (.getfield 54, 3) := by decide +kernel
theorem d_Tree_fits_71 : decode b_Tree_fits 71 = .ok (.iload 5, 2) := by decide +kernel
theorem d_Tree_fits_73 : decode b_Tree_fits 73 = .ok (.iload 6, 2) := by decide +kernel
theorem d_Tree_fits_75 : decode b_Tree_fits 75 = .ok (.iadd, 1) := by decide +kernel
theorem d_Tree_fits_76 : decode b_Tree_fits 76 = .ok (.invokevirtual 127, 3) := by decide +kernel
theorem d_Tree_fits_79 : decode b_Tree_fits 79 = .ok (.aload_n 0, 1) := by decide +kernel
theorem d_Tree_fits_80 : decode b_Tree_fits 80 = .ok (.getfield 46, 3) := by decide +kernel
theorem d_Tree_fits_83 : decode b_Tree_fits 83 = .ok (.iload 6, 2) := by decide +kernel
theorem d_Tree_fits_85 : decode b_Tree_fits 85 = .ok (.iconst 1, 1) := by decide +kernel
theorem d_Tree_fits_86 : decode b_Tree_fits 86 = .ok (.iadd, 1) := by decide +kernel
theorem d_Tree_fits_87 : decode b_Tree_fits 87 = .ok (.laload, 1) := by decide +kernel
theorem d_Tree_fits_88 : decode b_Tree_fits 88 = .ok (.invokevirtual 128, 3) := by decide +kernel
theorem d_Tree_fits_91 : decode b_Tree_fits 91 = .ok (.lastore, 1) := by decide +kernel
theorem d_Tree_fits_92 : decode b_Tree_fits 92 = .ok (.iinc 6 (-1), 3) := by decide +kernel
theorem d_Tree_fits_95 : decode b_Tree_fits 95 = .ok (.goto (-40), 3) := by decide +kernel
theorem d_Tree_fits_98 : decode b_Tree_fits 98 = .ok (.aload_n 0, 1) := by decide +kernel
theorem d_Tree_fits_99 : decode b_Tree_fits 99 = .ok (.getfield 46, 3) := by decide +kernel
theorem d_Tree_fits_102 : decode b_Tree_fits 102 = .ok (.iconst 0, 1) := by decide +kernel
theorem d_Tree_fits_103 : decode b_Tree_fits 103 = .ok (.laload, 1) := by decide +kernel
theorem d_Tree_fits_104 : decode b_Tree_fits 104 = .ok (.iload_n 2, 1) := by decide +kernel
theorem d_Tree_fits_105 : decode b_Tree_fits 105 = .ok (.invokestatic 132, 3) := by decide +kernel
theorem d_Tree_fits_108 : decode b_Tree_fits 108 = .ok (.ireturn, 1) := by decide +kernel
abbrev b_Tree_appendParts : ByteArray := prog_6_method_12_code
def y_Tree_appendParts : MethodName := ⟨"SyntaxTrees$Tree", "appendParts", "(II)V"⟩
def w_Tree_appendParts : List Cond := .code y_Tree_appendParts b_Tree_appendParts 9 none :: TBL
theorem hd_Tree_appendParts : y_Tree_appendParts.cls = "SyntaxTrees$Tree" ∧ y_Tree_appendParts.cls ≠ "java/lang/invoke/MethodHandle" ∧ y_Tree_appendParts.cls ≠ "java/lang/invoke/VarHandle" ∧ (parseMethodDescriptor y_Tree_appendParts.desc).map (fun d => d.parameters.length) = some 2 := by decide +kernel
theorem d_Tree_appendParts_0 : decode b_Tree_appendParts 0 = .ok (.aload_n 0, 1) := by decide +kernel
theorem d_Tree_appendParts_1 : decode b_Tree_appendParts 1 = .ok (.getfield 54, 3) := by decide +kernel
theorem d_Tree_appendParts_4 : decode b_Tree_appendParts 4 = .ok (.iload_n 2, 1) := by decide +kernel
theorem d_Tree_appendParts_5 : decode b_Tree_appendParts 5 = .ok (.invokevirtual 120, 3) := by decide +kernel
theorem d_Tree_appendParts_8 : decode b_Tree_appendParts 8 = .ok (.istore_n 3, 1) := by decide +kernel
theorem d_Tree_appendParts_9 : decode b_Tree_appendParts 9 = .ok (.aload_n 0, 1) := by decide +kernel
theorem d_Tree_appendParts_10 : decode b_Tree_appendParts 10 = .ok (.getfield 54, 3) := by decide +kernel
theorem d_Tree_appendParts_13 : decode b_Tree_appendParts 13 = .ok (.iload_n 2, 1) := by decide +kernel
theorem d_Tree_appendParts_14 : decode b_Tree_appendParts 14 = .ok (.invokevirtual 117, 3) := by decide +kernel
theorem d_Tree_appendParts_17 : decode b_Tree_appendParts 17 = .ok (.sipush 299, 3) := by decide +kernel
theorem d_Tree_appendParts_20 : decode b_Tree_appendParts 20 = .ok (.invokestatic 141, 3) := by decide +kernel
theorem d_Tree_appendParts_23 : decode b_Tree_appendParts 23 = .ok (.istore 4, 2) := by decide +kernel
theorem d_Tree_appendParts_25 : decode b_Tree_appendParts 25 = .ok (.aload_n 0, 1) := by decide +kernel
theorem d_Tree_appendParts_26 : decode b_Tree_appendParts 26 = .ok (.getfield 25, 3) := by decide +kernel
theorem d_Tree_appendParts_29 : decode b_Tree_appendParts 29 = .ok (.iload_n 1, 1) := by decide +kernel
theorem d_Tree_appendParts_30 : decode b_Tree_appendParts 30 = .ok (.iaload, 1) := by decide +kernel
theorem d_Tree_appendParts_31 : decode b_Tree_appendParts 31 = .ok (.istore 5, 2) := by decide +kernel
theorem d_Tree_appendParts_33 : decode b_Tree_appendParts 33 = .ok (.iconst 0, 1) := by decide +kernel
theorem d_Tree_appendParts_34 : decode b_Tree_appendParts 34 = .ok (.istore 6, 2) := by decide +kernel
theorem d_Tree_appendParts_36 : decode b_Tree_appendParts 36 = .ok (.iload 6, 2) := by decide +kernel
theorem d_Tree_appendParts_38 : decode b_Tree_appendParts 38 = .ok (.iload 4, 2) := by decide +kernel
theorem d_Tree_appendParts_40 : decode b_Tree_appendParts 40 = .ok (.if_icmp .ge 104, 3) := by decide +kernel
theorem d_Tree_appendParts_43 : decode b_Tree_appendParts 43 = .ok (.aload_n 0, 1) := by decide +kernel
theorem d_Tree_appendParts_44 : decode b_Tree_appendParts 44 = .ok (.getfield 54, 3) := by decide +kernel
theorem d_Tree_appendParts_47 : decode b_Tree_appendParts 47 = .ok (.iload_n 3, 1) := by decide +kernel
theorem d_Tree_appendParts_48 : decode b_Tree_appendParts 48 = .ok (.iload 6, 2) := by decide +kernel
theorem d_Tree_appendParts_50 : decode b_Tree_appendParts 50 = .ok (.iadd, 1) := by decide +kernel
theorem d_Tree_appendParts_51 : decode b_Tree_appendParts 51 = .ok (.invokevirtual 127, 3) := by decide +kernel
theorem d_Tree_appendParts_54 : decode b_Tree_appendParts 54 = .ok (.istore 7, 2) := by decide +kernel
theorem d_Tree_appendParts_56 : decode b_Tree_appendParts 56 = .ok (.aload_n 0, 1) := by decide +kernel
theorem d_Tree_appendParts_57 : decode b_Tree_appendParts 57 = .ok (.aload_n 0, 1) := by decide +kernel
theorem d_Tree_appendParts_58 : decode b_Tree_appendParts 58 = .ok (.getfield 46, 3) := by decide +kernel
theorem d_Tree_appendParts_61 : decode b_Tree_appendParts 61 = .ok (.iload 6, 2) := by decide +kernel
theorem d_Tree_appendParts_63 : decode b_Tree_appendParts 63 = .ok (.iconst 1, 1) := by decide +kernel
theorem d_Tree_appendParts_64 : decode b_Tree_appendParts 64 = .ok (.iadd, 1) := by decide +kernel
theorem d_Tree_appendParts_65 : decode b_Tree_appendParts 65 = .ok (.laload, 1) := by decide +kernel
theorem d_Tree_appendParts_66 : decode b_Tree_appendParts 66 = .ok (.iload 7, 2) := by decide +kernel
theorem d_Tree_appendParts_68 : decode b_Tree_appendParts 68 = .ok (.iload 5, 2) := by decide +kernel
theorem d_Tree_appendParts_70 : decode b_Tree_appendParts 70 = .ok (.invokevirtual 147, 3) := by decide +kernel
theorem d_Tree_appendParts_73 : decode b_Tree_appendParts 73 = .ok (.istore 8, 2) := by decide +kernel
theorem d_Tree_appendParts_75 : decode b_Tree_appendParts 75 = .ok (.aload_n 0, 1) := by decide +kernel
theorem d_Tree_appendParts_76 : decode b_Tree_appendParts 76 = .ok (.getfield 50, 3) := by decide +kernel
theorem d_Tree_appendParts_79 : decode b_Tree_appendParts 79 = .ok (.iload 7, 2) := by decide +kernel
theorem d_Tree_appendParts_81 : decode b_Tree_appendParts 81 = .ok (.invokevirtual 109, 3) := by decide +kernel
theorem d_Tree_appendParts_84 : decode b_Tree_appendParts 84 = .ok (.ifCond .eq 50, 3) := by decide +kernel
theorem d_Tree_appendParts_87 : decode b_Tree_appendParts 87 = .ok (.aload_n 0, 1) := by decide +kernel
theorem d_Tree_appendParts_88 : decode b_Tree_appendParts 88 = .ok (.aload_n 0, 1) := by decide +kernel
theorem d_Tree_appendParts_89 : decode b_Tree_appendParts 89 = .ok (.getfield 50, 3) := by decide +kernel
theorem d_Tree_appendParts_92 : decode b_Tree_appendParts 92 = .ok (.iload 7, 2) := by decide +kernel
theorem d_Tree_appendParts_94 : decode b_Tree_appendParts 94 = .ok (.invokevirtual 114, 3) := by decide +kernel
theorem d_Tree_appendParts_97 : decode b_Tree_appendParts 97 = .ok (.iload 5, 2) := by decide +kernel
theorem d_Tree_appendParts_99 : decode b_Tree_appendParts 99 = .ok (.iload 8, 2) := by decide +kernel
theorem d_Tree_appendParts_101 : decode b_Tree_appendParts 101 = .ok (.invokevirtual 74, 3) := by decide +kernel
theorem d_Tree_appendParts_104 : decode b_Tree_appendParts 104 = .ok (.ifCond .eq 30, 3) := by decide +kernel
theorem d_Tree_appendParts_107 : decode b_Tree_appendParts 107 = .ok (.aload_n 0, 1) := by decide +kernel
theorem d_Tree_appendParts_108 : decode b_Tree_appendParts 108 = .ok (.getfield 34, 3) := by decide +kernel
theorem d_Tree_appendParts_111 : decode b_Tree_appendParts 111 = .ok (.iload_n 1, 1) := by decide +kernel
theorem d_Tree_appendParts_112 : decode b_Tree_appendParts 112 = .ok (.dup2, 1) := by decide +kernel
theorem d_Tree_appendParts_113 : decode b_Tree_appendParts 113 = .ok (.iaload, 1) := by decide +kernel
theorem d_Tree_appendParts_114 : decode b_Tree_appendParts 114 = .ok (.iconst 1, 1) := by decide +kernel
theorem d_Tree_appendParts_115 : decode b_Tree_appendParts 115 = .ok (.iadd, 1) := by decide +kernel
theorem d_Tree_appendParts_116 : decode b_Tree_appendParts 116 = .ok (.iastore, 1) := by decide +kernel
theorem d_Tree_appendParts_117 : decode b_Tree_appendParts 117 = .ok (.aload_n 0, 1) := by decide +kernel
theorem d_Tree_appendParts_118 : decode b_Tree_appendParts 118 = .ok (.getfield 31, 3) := by decide +kernel
theorem d_Tree_appendParts_121 : decode b_Tree_appendParts 121 = .ok (.iload_n 1, 1) := by decide +kernel
theorem d_Tree_appendParts_122 : decode b_Tree_appendParts 122 = .ok (.aload_n 0, 1) := by decide +kernel
theorem d_Tree_appendParts_123 : decode b_Tree_appendParts 123 = .ok (.getfield 62, 3) := by decide +kernel
theorem d_Tree_appendParts_126 : decode b_Tree_appendParts 126 = .ok (.aload_n 0, 1) := by decide +kernel
theorem d_Tree_appendParts_127 : decode b_Tree_appendParts 127 = .ok (.getfield 34, 3) := by decide +kernel
theorem d_Tree_appendParts_130 : decode b_Tree_appendParts 130 = .ok (.iload_n 1, 1) := by decide +kernel
theorem d_Tree_appendParts_131 : decode b_Tree_appendParts 131 = .ok (.iaload, 1) := by decide +kernel
theorem d_Tree_appendParts_132 : decode b_Tree_appendParts 132 = .ok (.isub, 1) := by decide +kernel
theorem d_Tree_appendParts_133 : decode b_Tree_appendParts 133 = .ok (.iastore, 1) := by decide +kernel
theorem d_Tree_appendParts_134 : decode b_Tree_appendParts 134 = .ok (.iload 8, 2) := by decide +kernel
theorem d_Tree_appendParts_136 : decode b_Tree_appendParts 136 = .ok (.istore 5, 2) := by decide +kernel
theorem d_Tree_appendParts_138 : decode b_Tree_appendParts 138 = .ok (.iinc 6 1, 3) := by decide +kernel
theorem d_Tree_appendParts_141 : decode b_Tree_appendParts 141 = .ok (.goto (-105), 3) := by decide +kernel
theorem d_Tree_appendParts_144 : decode b_Tree_appendParts 144 = .ok (.return_, 1) := by decide +kernel
abbrev b_Tree_isRuleWithParts : ByteArray := prog_6_method_16_code
def y_Tree_isRuleWithParts : MethodName := ⟨"SyntaxTrees$Tree", "isRuleWithParts", "(I)Z"⟩
def w_Tree_isRuleWithParts : List Cond := .code y_Tree_isRuleWithParts b_Tree_isRuleWithParts 9 (some .boolean) :: TBL
theorem hd_Tree_isRuleWithParts : y_Tree_isRuleWithParts.cls = "SyntaxTrees$Tree" ∧ y_Tree_isRuleWithParts.cls ≠ "java/lang/invoke/MethodHandle" ∧ y_Tree_isRuleWithParts.cls ≠ "java/lang/invoke/VarHandle" ∧ (parseMethodDescriptor y_Tree_isRuleWithParts.desc).map (fun d => d.parameters.length) = some 1 := by decide +kernel
theorem d_Tree_isRuleWithParts_0 : decode b_Tree_isRuleWithParts 0 = .ok (.aload_n 0, 1) := by decide +kernel
theorem d_Tree_isRuleWithParts_1 : decode b_Tree_isRuleWithParts 1 = .ok (.getfield 18, 3) := by decide +kernel
theorem d_Tree_isRuleWithParts_4 : decode b_Tree_isRuleWithParts 4 = .ok (.iload_n 1, 1) := by decide +kernel
theorem d_Tree_isRuleWithParts_5 : decode b_Tree_isRuleWithParts 5 = .ok (.iaload, 1) := by decide +kernel
theorem d_Tree_isRuleWithParts_6 : decode b_Tree_isRuleWithParts 6 = .ok (.istore_n 2, 1) := by decide +kernel
theorem d_Tree_isRuleWithParts_7 : decode b_Tree_isRuleWithParts 7 = .ok (.aload_n 0, 1) := by decide +kernel
theorem d_Tree_isRuleWithParts_8 : decode b_Tree_isRuleWithParts 8 = .ok (.getfield 54, 3) := by decide +kernel
theorem d_Tree_isRuleWithParts_11 : decode b_Tree_isRuleWithParts 11 = .ok (.iload_n 2, 1) := by decide +kernel
theorem d_Tree_isRuleWithParts_12 : decode b_Tree_isRuleWithParts 12 = .ok (.invokevirtual 120, 3) := by decide +kernel
theorem d_Tree_isRuleWithParts_15 : decode b_Tree_isRuleWithParts 15 = .ok (.istore_n 3, 1) := by decide +kernel
theorem d_Tree_isRuleWithParts_16 : decode b_Tree_isRuleWithParts 16 = .ok (.aload_n 0, 1) := by decide +kernel
theorem d_Tree_isRuleWithParts_17 : decode b_Tree_isRuleWithParts 17 = .ok (.getfield 25, 3) := by decide +kernel
theorem d_Tree_isRuleWithParts_20 : decode b_Tree_isRuleWithParts 20 = .ok (.iload_n 1, 1) := by decide +kernel
theorem d_Tree_isRuleWithParts_21 : decode b_Tree_isRuleWithParts 21 = .ok (.iaload, 1) := by decide +kernel
theorem d_Tree_isRuleWithParts_22 : decode b_Tree_isRuleWithParts 22 = .ok (.istore 4, 2) := by decide +kernel
theorem d_Tree_isRuleWithParts_24 : decode b_Tree_isRuleWithParts 24 = .ok (.iconst 0, 1) := by decide +kernel
theorem d_Tree_isRuleWithParts_25 : decode b_Tree_isRuleWithParts 25 = .ok (.istore 5, 2) := by decide +kernel
theorem d_Tree_isRuleWithParts_27 : decode b_Tree_isRuleWithParts 27 = .ok (.iconst 0, 1) := by decide +kernel
theorem d_Tree_isRuleWithParts_28 : decode b_Tree_isRuleWithParts 28 = .ok (.istore 6, 2) := by decide +kernel
theorem d_Tree_isRuleWithParts_30 : decode b_Tree_isRuleWithParts 30 = .ok (.iload 6, 2) := by decide +kernel
theorem d_Tree_isRuleWithParts_32 : decode b_Tree_isRuleWithParts 32 = .ok (.aload_n 0, 1) := by decide +kernel
theorem d_Tree_isRuleWithParts_33 : decode b_Tree_isRuleWithParts 33 = .ok (.getfield 54, 3) := by decide +kernel
theorem d_Tree_isRuleWithParts_36 : decode b_Tree_isRuleWithParts 36 = .ok (.iload_n 2, 1) := by decide +kernel
theorem d_Tree_isRuleWithParts_37 : decode b_Tree_isRuleWithParts 37 = .ok (.invokevirtual 117, 3) := by decide +kernel
theorem d_Tree_isRuleWithParts_40 : decode b_Tree_isRuleWithParts 40 = .ok (.if_icmp .ge 94, 3) := by decide +kernel
theorem d_Tree_isRuleWithParts_43 : decode b_Tree_isRuleWithParts 43 = .ok (.aload_n 0, 1) := by decide +kernel
theorem d_Tree_isRuleWithParts_44 : decode b_Tree_isRuleWithParts 44 = .ok (.getfield 54, 3) := by decide +kernel
theorem d_Tree_isRuleWithParts_47 : decode b_Tree_isRuleWithParts 47 = .ok (.iload_n 3, 1) := by decide +kernel
theorem d_Tree_isRuleWithParts_48 : decode b_Tree_isRuleWithParts 48 = .ok (.iload 6, 2) := by decide +kernel
theorem d_Tree_isRuleWithParts_50 : decode b_Tree_isRuleWithParts 50 = .ok (.iadd, 1) := by decide +kernel
theorem d_Tree_isRuleWithParts_51 : decode b_Tree_isRuleWithParts 51 = .ok (.invokevirtual 127, 3) := by decide +kernel
theorem d_Tree_isRuleWithParts_54 : decode b_Tree_isRuleWithParts 54 = .ok (.istore 7, 2) := by decide +kernel
theorem d_Tree_isRuleWithParts_56 : decode b_Tree_isRuleWithParts 56 = .ok (.aload_n 0, 1) := by decide +kernel
theorem d_Tree_isRuleWithParts_57 : decode b_Tree_isRuleWithParts 57 = .ok (.getfield 50, 3) := by decide +kernel
theorem d_Tree_isRuleWithParts_60 : decode b_Tree_isRuleWithParts 60 = .ok (.iload 7, 2) := by decide +kernel
theorem d_Tree_isRuleWithParts_62 : decode b_Tree_isRuleWithParts 62 = .ok (.invokevirtual 109, 3) := by decide +kernel
theorem d_Tree_isRuleWithParts_65 : decode b_Tree_isRuleWithParts 65 = .ok (.ifCond .eq 44, 3) := by decide +kernel
theorem d_Tree_isRuleWithParts_68 : decode b_Tree_isRuleWithParts 68 = .ok (.aload_n 0, 1) := by decide +kernel
theorem d_Tree_isRuleWithParts_69 : decode b_Tree_isRuleWithParts 69 = .ok (.getfield 31, 3) := by decide +kernel
theorem d_Tree_isRuleWithParts_72 : decode b_Tree_isRuleWithParts 72 = .ok (.iload_n 1, 1) := by decide +kernel
theorem d_Tree_isRuleWithParts_73 : decode b_Tree_isRuleWithParts 73 = .ok (.iaload, 1) := by decide +kernel
theorem d_Tree_isRuleWithParts_74 : decode b_Tree_isRuleWithParts 74 = .ok (.iload 5, 2) := by decide +kernel
theorem d_Tree_isRuleWithParts_76 : decode b_Tree_isRuleWithParts 76 = .ok (.iadd, 1) := by decide +kernel
theorem d_Tree_isRuleWithParts_77 : decode b_Tree_isRuleWithParts 77 = .ok (.istore 8, 2) := by decide +kernel
theorem d_Tree_isRuleWithParts_79 : decode b_Tree_isRuleWithParts 79 = .ok (.aload_n 0, 1) := by decide +kernel
theorem d_Tree_isRuleWithParts_80 : decode b_Tree_isRuleWithParts 80 = .ok (.iload 8, 2) := by decide +kernel
theorem d_Tree_isRuleWithParts_82 : decode b_Tree_isRuleWithParts 82 = .ok (.iload 7, 2) := by decide +kernel
theorem d_Tree_isRuleWithParts_84 : decode b_Tree_isRuleWithParts 84 = .ok (.iload 4, 2) := by decide +kernel
theorem d_Tree_isRuleWithParts_86 : decode b_Tree_isRuleWithParts 86 = .ok (.invokevirtual 151, 3) := by decide +kernel
theorem d_Tree_isRuleWithParts_89 : decode b_Tree_isRuleWithParts 89 = .ok (.ifCond .ne 5, 3) := by decide +kernel
theorem d_Tree_isRuleWithParts_92 : decode b_Tree_isRuleWithParts 92 = .ok (.iconst 0, 1) := by decide +kernel
theorem d_Tree_isRuleWithParts_93 : decode b_Tree_isRuleWithParts 93 = .ok (.ireturn, 1) := by decide +kernel
theorem d_Tree_isRuleWithParts_94 : decode b_Tree_isRuleWithParts 94 = .ok (.aload_n 0, 1) := by decide +kernel
theorem d_Tree_isRuleWithParts_95 : decode b_Tree_isRuleWithParts 95 = .ok (.getfield 28, 3) := by decide +kernel
theorem d_Tree_isRuleWithParts_98 : decode b_Tree_isRuleWithParts 98 = .ok (.iload 8, 2) := by decide +kernel
theorem d_Tree_isRuleWithParts_100 : decode b_Tree_isRuleWithParts 100 = .ok (.iaload, 1) := by decide +kernel
theorem d_Tree_isRuleWithParts_101 : decode b_Tree_isRuleWithParts 101 = .ok (.istore 4, 2) := by decide +kernel
theorem d_Tree_isRuleWithParts_103 : decode b_Tree_isRuleWithParts 103 = .ok (.iinc 5 1, 3) := by decide +kernel
theorem d_Tree_isRuleWithParts_106 : decode b_Tree_isRuleWithParts 106 = .ok (.goto 22, 3) := by decide +kernel
theorem d_Tree_isRuleWithParts_109 : decode b_Tree_isRuleWithParts 109 = .ok (.aload_n 0, 1) := by decide +kernel
theorem d_Tree_isRuleWithParts_110 : decode b_Tree_isRuleWithParts 110 = .ok (.getfield 12, 3) := by decide +kernel
theorem d_Tree_isRuleWithParts_113 : decode b_Tree_isRuleWithParts 113 = .ok (.iload 4, 2) := by decide +kernel
theorem d_Tree_isRuleWithParts_115 : decode b_Tree_isRuleWithParts 115 = .ok (.invokevirtual 106, 3) := by decide +kernel
theorem d_Tree_isRuleWithParts_118 : decode b_Tree_isRuleWithParts 118 = .ok (.iload 7, 2) := by decide +kernel
theorem d_Tree_isRuleWithParts_120 : decode b_Tree_isRuleWithParts 120 = .ok (.if_icmp .eq 5, 3) := by decide +kernel
theorem d_Tree_isRuleWithParts_123 : decode b_Tree_isRuleWithParts 123 = .ok (.iconst 0, 1) := by decide +kernel
theorem d_Tree_isRuleWithParts_124 : decode b_Tree_isRuleWithParts 124 = .ok (.ireturn, 1) := by decide +kernel
theorem d_Tree_isRuleWithParts_125 : decode b_Tree_isRuleWithParts 125 = .ok (.iinc 4 1, 3) := by decide +kernel
theorem d_Tree_isRuleWithParts_128 : decode b_Tree_isRuleWithParts 128 = .ok (.iinc 6 1, 3) := by decide +kernel
theorem d_Tree_isRuleWithParts_131 : decode b_Tree_isRuleWithParts 131 = .ok (.goto (-101), 3) := by decide +kernel
theorem d_Tree_isRuleWithParts_134 : decode b_Tree_isRuleWithParts 134 = .ok (.aload_n 0, 1) := by decide +kernel
theorem d_Tree_isRuleWithParts_135 : decode b_Tree_isRuleWithParts 135 = .ok (.getfield 54, 3) := by decide +kernel
theorem d_Tree_isRuleWithParts_138 : decode b_Tree_isRuleWithParts 138 = .ok (.iload_n 2, 1) := by decide +kernel
theorem d_Tree_isRuleWithParts_139 : decode b_Tree_isRuleWithParts 139 = .ok (.invokevirtual 95, 3) := by decide +kernel
theorem d_Tree_isRuleWithParts_142 : decode b_Tree_isRuleWithParts 142 = .ok (.aload_n 0, 1) := by decide +kernel
theorem d_Tree_isRuleWithParts_143 : decode b_Tree_isRuleWithParts 143 = .ok (.getfield 22, 3) := by decide +kernel
theorem d_Tree_isRuleWithParts_146 : decode b_Tree_isRuleWithParts 146 = .ok (.iload_n 1, 1) := by decide +kernel
theorem d_Tree_isRuleWithParts_147 : decode b_Tree_isRuleWithParts 147 = .ok (.iaload, 1) := by decide +kernel
theorem d_Tree_isRuleWithParts_148 : decode b_Tree_isRuleWithParts 148 = .ok (.if_icmp .ne 29, 3) := by decide +kernel
theorem d_Tree_isRuleWithParts_151 : decode b_Tree_isRuleWithParts 151 = .ok (.iload 4, 2) := by decide +kernel
theorem d_Tree_isRuleWithParts_153 : decode b_Tree_isRuleWithParts 153 = .ok (.aload_n 0, 1) := by decide +kernel
theorem d_Tree_isRuleWithParts_154 : decode b_Tree_isRuleWithParts 154 = .ok (.getfield 28, 3) := by decide +kernel
theorem d_Tree_isRuleWithParts_157 : decode b_Tree_isRuleWithParts 157 = .ok (.iload_n 1, 1) := by decide +kernel
theorem d_Tree_isRuleWithParts_158 : decode b_Tree_isRuleWithParts 158 = .ok (.iaload, 1) := by decide +kernel
theorem d_Tree_isRuleWithParts_159 : decode b_Tree_isRuleWithParts 159 = .ok (.if_icmp .ne 18, 3) := by decide +kernel
theorem d_Tree_isRuleWithParts_162 : decode b_Tree_isRuleWithParts 162 = .ok (.iload 5, 2) := by decide +kernel
theorem d_Tree_isRuleWithParts_164 : decode b_Tree_isRuleWithParts 164 = .ok (.aload_n 0, 1) := by decide +kernel
theorem d_Tree_isRuleWithParts_165 : decode b_Tree_isRuleWithParts 165 = .ok (.getfield 34, 3) := by decide +kernel
theorem d_Tree_isRuleWithParts_168 : decode b_Tree_isRuleWithParts 168 = .ok (.iload_n 1, 1) := by decide +kernel
theorem d_Tree_isRuleWithParts_169 : decode b_Tree_isRuleWithParts 169 = .ok (.iaload, 1) := by decide +kernel
theorem d_Tree_isRuleWithParts_170 : decode b_Tree_isRuleWithParts 170 = .ok (.if_icmp .ne 7, 3) := by decide +kernel
theorem d_Tree_isRuleWithParts_173 : decode b_Tree_isRuleWithParts 173 = .ok (.iconst 1, 1) := by decide +kernel
theorem d_Tree_isRuleWithParts_174 : decode b_Tree_isRuleWithParts 174 = .ok (.goto 4, 3) := by decide +kernel
theorem d_Tree_isRuleWithParts_177 : decode b_Tree_isRuleWithParts 177 = .ok (.iconst 0, 1) := by decide +kernel
theorem d_Tree_isRuleWithParts_178 : decode b_Tree_isRuleWithParts 178 = .ok (.ireturn, 1) := by decide +kernel
abbrev b_Tree_holds : ByteArray := prog_6_method_6_code
def y_Tree_holds : MethodName := ⟨"SyntaxTrees$Tree", "holds", "()Z"⟩
def w_Tree_holds : List Cond := .code y_Tree_holds b_Tree_holds 3 (some .boolean) :: TBL
theorem hd_Tree_holds : y_Tree_holds.cls = "SyntaxTrees$Tree" ∧ y_Tree_holds.cls ≠ "java/lang/invoke/MethodHandle" ∧ y_Tree_holds.cls ≠ "java/lang/invoke/VarHandle" ∧ (parseMethodDescriptor y_Tree_holds.desc).map (fun d => d.parameters.length) = some 0 := by decide +kernel
theorem d_Tree_holds_0 : decode b_Tree_holds 0 = .ok (.iconst 0, 1) := by decide +kernel
theorem d_Tree_holds_1 : decode b_Tree_holds 1 = .ok (.istore_n 1, 1) := by decide +kernel
theorem d_Tree_holds_2 : decode b_Tree_holds 2 = .ok (.iload_n 1, 1) := by decide +kernel
theorem d_Tree_holds_3 : decode b_Tree_holds 3 = .ok (.aload_n 0, 1) := by decide +kernel
theorem d_Tree_holds_4 : decode b_Tree_holds 4 = .ok (.getfield 62, 3) := by decide +kernel
theorem d_Tree_holds_7 : decode b_Tree_holds 7 = .ok (.if_icmp .ge 39, 3) := by decide +kernel
theorem d_Tree_holds_10 : decode b_Tree_holds 10 = .ok (.aload_n 0, 1) := by decide +kernel
theorem d_Tree_holds_11 : decode b_Tree_holds 11 = .ok (.getfield 18, 3) := by decide +kernel
theorem d_Tree_holds_14 : decode b_Tree_holds 14 = .ok (.iload_n 1, 1) := by decide +kernel
theorem d_Tree_holds_15 : decode b_Tree_holds 15 = .ok (.iaload, 1) := by decide +kernel
theorem d_Tree_holds_16 : decode b_Tree_holds 16 = .ok (.iconst (-1), 1) := by decide +kernel
theorem d_Tree_holds_17 : decode b_Tree_holds 17 = .ok (.if_icmp .ne 11, 3) := by decide +kernel
theorem d_Tree_holds_20 : decode b_Tree_holds 20 = .ok (.aload_n 0, 1) := by decide +kernel
theorem d_Tree_holds_21 : decode b_Tree_holds 21 = .ok (.iload_n 1, 1) := by decide +kernel
theorem d_Tree_holds_22 : decode b_Tree_holds 22 = .ok (.invokevirtual 88, 3) := by decide +kernel
theorem d_Tree_holds_25 : decode b_Tree_holds 25 = .ok (.goto 8, 3) := by decide +kernel
theorem d_Tree_holds_28 : decode b_Tree_holds 28 = .ok (.aload_n 0, 1) := by decide +kernel
theorem d_Tree_holds_29 : decode b_Tree_holds 29 = .ok (.iload_n 1, 1) := by decide +kernel
theorem d_Tree_holds_30 : decode b_Tree_holds 30 = .ok (.invokevirtual 92, 3) := by decide +kernel
theorem d_Tree_holds_33 : decode b_Tree_holds 33 = .ok (.istore_n 2, 1) := by decide +kernel
theorem d_Tree_holds_34 : decode b_Tree_holds 34 = .ok (.iload_n 2, 1) := by decide +kernel
theorem d_Tree_holds_35 : decode b_Tree_holds 35 = .ok (.ifCond .ne 5, 3) := by decide +kernel
theorem d_Tree_holds_38 : decode b_Tree_holds 38 = .ok (.iconst 0, 1) := by decide +kernel
theorem d_Tree_holds_39 : decode b_Tree_holds 39 = .ok (.ireturn, 1) := by decide +kernel
theorem d_Tree_holds_40 : decode b_Tree_holds 40 = .ok (.iinc 1 1, 3) := by decide +kernel
theorem d_Tree_holds_43 : decode b_Tree_holds 43 = .ok (.goto (-41), 3) := by decide +kernel
theorem d_Tree_holds_46 : decode b_Tree_holds 46 = .ok (.iconst 1, 1) := by decide +kernel
theorem d_Tree_holds_47 : decode b_Tree_holds 47 = .ok (.ireturn, 1) := by decide +kernel
abbrev b_Tree_grow : ByteArray := prog_6_method_8_code
def y_Tree_grow : MethodName := ⟨"SyntaxTrees$Tree", "grow", "(II)V"⟩
def w_Tree_grow : List Cond := .code y_Tree_grow b_Tree_grow 4 none :: TBL
theorem hd_Tree_grow : y_Tree_grow.cls = "SyntaxTrees$Tree" ∧ y_Tree_grow.cls ≠ "java/lang/invoke/MethodHandle" ∧ y_Tree_grow.cls ≠ "java/lang/invoke/VarHandle" ∧ (parseMethodDescriptor y_Tree_grow.desc).map (fun d => d.parameters.length) = some 2 := by decide +kernel
theorem d_Tree_grow_0 : decode b_Tree_grow 0 = .ok (.aload_n 0, 1) := by decide +kernel
theorem d_Tree_grow_1 : decode b_Tree_grow 1 = .ok (.iload_n 1, 1) := by decide +kernel
theorem d_Tree_grow_2 : decode b_Tree_grow 2 = .ok (.invokevirtual 88, 3) := by decide +kernel
theorem d_Tree_grow_5 : decode b_Tree_grow 5 = .ok (.ifCond .eq 4, 3) := by decide +kernel
theorem d_Tree_grow_8 : decode b_Tree_grow 8 = .ok (.return_, 1) := by decide +kernel
theorem d_Tree_grow_9 : decode b_Tree_grow 9 = .ok (.iconst 0, 1) := by decide +kernel
theorem d_Tree_grow_10 : decode b_Tree_grow 10 = .ok (.istore_n 3, 1) := by decide +kernel
theorem d_Tree_grow_11 : decode b_Tree_grow 11 = .ok (.iload_n 3, 1) := by decide +kernel
theorem d_Tree_grow_12 : decode b_Tree_grow 12 = .ok (.iload_n 2, 1) := by decide +kernel
theorem d_Tree_grow_13 : decode b_Tree_grow 13 = .ok (.if_icmp .ge 60, 3) := by decide +kernel
theorem d_Tree_grow_16 : decode b_Tree_grow 16 = .ok (.aload_n 0, 1) := by decide +kernel
theorem d_Tree_grow_17 : decode b_Tree_grow 17 = .ok (.getfield 54, 3) := by decide +kernel
theorem d_Tree_grow_20 : decode b_Tree_grow 20 = .ok (.iload_n 3, 1) := by decide +kernel
theorem d_Tree_grow_21 : decode b_Tree_grow 21 = .ok (.invokevirtual 95, 3) := by decide +kernel
theorem d_Tree_grow_24 : decode b_Tree_grow 24 = .ok (.aload_n 0, 1) := by decide +kernel
theorem d_Tree_grow_25 : decode b_Tree_grow 25 = .ok (.getfield 22, 3) := by decide +kernel
theorem d_Tree_grow_28 : decode b_Tree_grow 28 = .ok (.iload_n 1, 1) := by decide +kernel
theorem d_Tree_grow_29 : decode b_Tree_grow 29 = .ok (.iaload, 1) := by decide +kernel
theorem d_Tree_grow_30 : decode b_Tree_grow 30 = .ok (.if_icmp .ne 37, 3) := by decide +kernel
theorem d_Tree_grow_33 : decode b_Tree_grow 33 = .ok (.aload_n 0, 1) := by decide +kernel
theorem d_Tree_grow_34 : decode b_Tree_grow 34 = .ok (.iload_n 3, 1) := by decide +kernel
theorem d_Tree_grow_35 : decode b_Tree_grow 35 = .ok (.aload_n 0, 1) := by decide +kernel
theorem d_Tree_grow_36 : decode b_Tree_grow 36 = .ok (.getfield 25, 3) := by decide +kernel
theorem d_Tree_grow_39 : decode b_Tree_grow 39 = .ok (.iload_n 1, 1) := by decide +kernel
theorem d_Tree_grow_40 : decode b_Tree_grow 40 = .ok (.iaload, 1) := by decide +kernel
theorem d_Tree_grow_41 : decode b_Tree_grow 41 = .ok (.aload_n 0, 1) := by decide +kernel
theorem d_Tree_grow_42 : decode b_Tree_grow 42 = .ok (.getfield 28, 3) := by decide +kernel
theorem d_Tree_grow_45 : decode b_Tree_grow 45 = .ok (.iload_n 1, 1) := by decide +kernel
theorem d_Tree_grow_46 : decode b_Tree_grow 46 = .ok (.iaload, 1) := by decide +kernel
theorem d_Tree_grow_47 : decode b_Tree_grow 47 = .ok (.invokevirtual 100, 3) := by decide +kernel
theorem d_Tree_grow_50 : decode b_Tree_grow 50 = .ok (.ifCond .eq 17, 3) := by decide +kernel
theorem d_Tree_grow_53 : decode b_Tree_grow 53 = .ok (.aload_n 0, 1) := by decide +kernel
theorem d_Tree_grow_54 : decode b_Tree_grow 54 = .ok (.getfield 18, 3) := by decide +kernel
theorem d_Tree_grow_57 : decode b_Tree_grow 57 = .ok (.iload_n 1, 1) := by decide +kernel
theorem d_Tree_grow_58 : decode b_Tree_grow 58 = .ok (.iload_n 3, 1) := by decide +kernel
theorem d_Tree_grow_59 : decode b_Tree_grow 59 = .ok (.iastore, 1) := by decide +kernel
theorem d_Tree_grow_60 : decode b_Tree_grow 60 = .ok (.aload_n 0, 1) := by decide +kernel
theorem d_Tree_grow_61 : decode b_Tree_grow 61 = .ok (.iload_n 1, 1) := by decide +kernel
theorem d_Tree_grow_62 : decode b_Tree_grow 62 = .ok (.iload_n 3, 1) := by decide +kernel
theorem d_Tree_grow_63 : decode b_Tree_grow 63 = .ok (.invokevirtual 103, 3) := by decide +kernel
theorem d_Tree_grow_66 : decode b_Tree_grow 66 = .ok (.return_, 1) := by decide +kernel
theorem d_Tree_grow_67 : decode b_Tree_grow 67 = .ok (.iinc 3 1, 3) := by decide +kernel
theorem d_Tree_grow_70 : decode b_Tree_grow 70 = .ok (.goto (-59), 3) := by decide +kernel
theorem d_Tree_grow_73 : decode b_Tree_grow 73 = .ok (.return_, 1) := by decide +kernel
abbrev b_Tree_build : ByteArray := prog_6_method_5_code
def y_Tree_build : MethodName := ⟨"SyntaxTrees$Tree", "build", "(LSyntaxTrees$Row;II)I"⟩
def w_Tree_build : List Cond := .code y_Tree_build b_Tree_build 5 (some .int) :: TBL
theorem hd_Tree_build : y_Tree_build.cls = "SyntaxTrees$Tree" ∧ y_Tree_build.cls ≠ "java/lang/invoke/MethodHandle" ∧ y_Tree_build.cls ≠ "java/lang/invoke/VarHandle" ∧ (parseMethodDescriptor y_Tree_build.desc).map (fun d => d.parameters.length) = some 3 := by decide +kernel
theorem d_Tree_build_0 : decode b_Tree_build 0 = .ok (.aload_n 0, 1) := by decide +kernel
theorem d_Tree_build_1 : decode b_Tree_build 1 = .ok (.getfield 12, 3) := by decide +kernel
theorem d_Tree_build_4 : decode b_Tree_build 4 = .ok (.aload_n 1, 1) := by decide +kernel
theorem d_Tree_build_5 : decode b_Tree_build 5 = .ok (.invokevirtual 66, 3) := by decide +kernel
theorem d_Tree_build_8 : decode b_Tree_build 8 = .ok (.aload_n 0, 1) := by decide +kernel
theorem d_Tree_build_9 : decode b_Tree_build 9 = .ok (.iconst 0, 1) := by decide +kernel
theorem d_Tree_build_10 : decode b_Tree_build 10 = .ok (.putfield 62, 3) := by decide +kernel
theorem d_Tree_build_13 : decode b_Tree_build 13 = .ok (.aload_n 0, 1) := by decide +kernel
theorem d_Tree_build_14 : decode b_Tree_build 14 = .ok (.iload_n 2, 1) := by decide +kernel
theorem d_Tree_build_15 : decode b_Tree_build 15 = .ok (.iconst 0, 1) := by decide +kernel
theorem d_Tree_build_16 : decode b_Tree_build 16 = .ok (.aload_n 1, 1) := by decide +kernel
theorem d_Tree_build_17 : decode b_Tree_build 17 = .ok (.invokevirtual 70, 3) := by decide +kernel
theorem d_Tree_build_20 : decode b_Tree_build 20 = .ok (.invokevirtual 74, 3) := by decide +kernel
theorem d_Tree_build_23 : decode b_Tree_build 23 = .ok (.pop, 1) := by decide +kernel
theorem d_Tree_build_24 : decode b_Tree_build 24 = .ok (.iconst 0, 1) := by decide +kernel
theorem d_Tree_build_25 : decode b_Tree_build 25 = .ok (.istore 4, 2) := by decide +kernel
theorem d_Tree_build_27 : decode b_Tree_build 27 = .ok (.iload 4, 2) := by decide +kernel
theorem d_Tree_build_29 : decode b_Tree_build 29 = .ok (.aload_n 0, 1) := by decide +kernel
theorem d_Tree_build_30 : decode b_Tree_build 30 = .ok (.getfield 62, 3) := by decide +kernel
theorem d_Tree_build_33 : decode b_Tree_build 33 = .ok (.if_icmp .ge 24, 3) := by decide +kernel
theorem d_Tree_build_36 : decode b_Tree_build 36 = .ok (.iload 4, 2) := by decide +kernel
theorem d_Tree_build_38 : decode b_Tree_build 38 = .ok (.sipush 11700, 3) := by decide +kernel
theorem d_Tree_build_41 : decode b_Tree_build 41 = .ok (.if_icmp .ge 16, 3) := by decide +kernel
theorem d_Tree_build_44 : decode b_Tree_build 44 = .ok (.aload_n 0, 1) := by decide +kernel
theorem d_Tree_build_45 : decode b_Tree_build 45 = .ok (.iload 4, 2) := by decide +kernel
theorem d_Tree_build_47 : decode b_Tree_build 47 = .ok (.iload_n 3, 1) := by decide +kernel
theorem d_Tree_build_48 : decode b_Tree_build 48 = .ok (.invokevirtual 78, 3) := by decide +kernel
theorem d_Tree_build_51 : decode b_Tree_build 51 = .ok (.iinc 4 1, 3) := by decide +kernel
theorem d_Tree_build_54 : decode b_Tree_build 54 = .ok (.goto (-27), 3) := by decide +kernel
theorem d_Tree_build_57 : decode b_Tree_build 57 = .ok (.aload_n 0, 1) := by decide +kernel
theorem d_Tree_build_58 : decode b_Tree_build 58 = .ok (.invokevirtual 82, 3) := by decide +kernel
theorem d_Tree_build_61 : decode b_Tree_build 61 = .ok (.aload_n 0, 1) := by decide +kernel
theorem d_Tree_build_62 : decode b_Tree_build 62 = .ok (.invokevirtual 85, 3) := by decide +kernel
theorem d_Tree_build_65 : decode b_Tree_build 65 = .ok (.aload_n 0, 1) := by decide +kernel
theorem d_Tree_build_66 : decode b_Tree_build 66 = .ok (.getfield 62, 3) := by decide +kernel
theorem d_Tree_build_69 : decode b_Tree_build 69 = .ok (.ireturn, 1) := by decide +kernel
