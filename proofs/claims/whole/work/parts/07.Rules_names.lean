abbrev b_Rules_init : ByteArray := prog_4_method_1_code
def y_Rules_init : MethodName := ⟨"SyntaxTrees$Rules", "<init>", "(LSyntaxTrees$Symbols;)V"⟩
def w_Rules_init : List Cond := .code y_Rules_init b_Rules_init 3 none :: TBL
theorem hd_Rules_init : y_Rules_init.cls = "SyntaxTrees$Rules" ∧ y_Rules_init.cls ≠ "java/lang/invoke/MethodHandle" ∧ y_Rules_init.cls ≠ "java/lang/invoke/VarHandle" ∧ (parseMethodDescriptor y_Rules_init.desc).map (fun d => d.parameters.length) = some 1 := by decide +kernel
theorem d_Rules_init_0 : decode b_Rules_init 0 = .ok (.aload_n 0, 1) := by decide +kernel
theorem d_Rules_init_1 : decode b_Rules_init 1 = .ok (.invokespecial 3, 3) := by decide +kernel
theorem d_Rules_init_4 : decode b_Rules_init 4 = .ok (.aload_n 0, 1) := by decide +kernel
theorem d_Rules_init_5 : decode b_Rules_init 5 = .ok (.sipush 1500, 3) := by decide +kernel
theorem d_Rules_init_8 : decode b_Rules_init 8 = .ok (.newarray .int, 2) := by decide +kernel
theorem d_Rules_init_10 : decode b_Rules_init 10 = .ok (.putfield 9, 3) := by decide +kernel
theorem d_Rules_init_13 : decode b_Rules_init 13 = .ok (.aload_n 0, 1) := by decide +kernel
theorem d_Rules_init_14 : decode b_Rules_init 14 = .ok (.sipush 30000, 3) := by decide +kernel
theorem d_Rules_init_17 : decode b_Rules_init 17 = .ok (.newarray .int, 2) := by decide +kernel
theorem d_Rules_init_19 : decode b_Rules_init 19 = .ok (.putfield 15, 3) := by decide +kernel
theorem d_Rules_init_22 : decode b_Rules_init 22 = .ok (.aload_n 0, 1) := by decide +kernel
theorem d_Rules_init_23 : decode b_Rules_init 23 = .ok (.sipush 1501, 3) := by decide +kernel
theorem d_Rules_init_26 : decode b_Rules_init 26 = .ok (.newarray .int, 2) := by decide +kernel
theorem d_Rules_init_28 : decode b_Rules_init 28 = .ok (.putfield 18, 3) := by decide +kernel
theorem d_Rules_init_31 : decode b_Rules_init 31 = .ok (.aload_n 0, 1) := by decide +kernel
theorem d_Rules_init_32 : decode b_Rules_init 32 = .ok (.bipush 100, 2) := by decide +kernel
theorem d_Rules_init_34 : decode b_Rules_init 34 = .ok (.newarray .int, 2) := by decide +kernel
theorem d_Rules_init_36 : decode b_Rules_init 36 = .ok (.putfield 21, 3) := by decide +kernel
theorem d_Rules_init_39 : decode b_Rules_init 39 = .ok (.aload_n 0, 1) := by decide +kernel
theorem d_Rules_init_40 : decode b_Rules_init 40 = .ok (.sipush 1500, 3) := by decide +kernel
theorem d_Rules_init_43 : decode b_Rules_init 43 = .ok (.newarray .int, 2) := by decide +kernel
theorem d_Rules_init_45 : decode b_Rules_init 45 = .ok (.putfield 24, 3) := by decide +kernel
theorem d_Rules_init_48 : decode b_Rules_init 48 = .ok (.aload_n 0, 1) := by decide +kernel
theorem d_Rules_init_49 : decode b_Rules_init 49 = .ok (.aload_n 1, 1) := by decide +kernel
theorem d_Rules_init_50 : decode b_Rules_init 50 = .ok (.putfield 27, 3) := by decide +kernel
theorem d_Rules_init_53 : decode b_Rules_init 53 = .ok (.iconst 0, 1) := by decide +kernel
theorem d_Rules_init_54 : decode b_Rules_init 54 = .ok (.istore_n 2, 1) := by decide +kernel
theorem d_Rules_init_55 : decode b_Rules_init 55 = .ok (.iload_n 2, 1) := by decide +kernel
theorem d_Rules_init_56 : decode b_Rules_init 56 = .ok (.bipush 100, 2) := by decide +kernel
theorem d_Rules_init_58 : decode b_Rules_init 58 = .ok (.if_icmp .ge 16, 3) := by decide +kernel
theorem d_Rules_init_61 : decode b_Rules_init 61 = .ok (.aload_n 0, 1) := by decide +kernel
theorem d_Rules_init_62 : decode b_Rules_init 62 = .ok (.getfield 21, 3) := by decide +kernel
theorem d_Rules_init_65 : decode b_Rules_init 65 = .ok (.iload_n 2, 1) := by decide +kernel
theorem d_Rules_init_66 : decode b_Rules_init 66 = .ok (.iconst (-1), 1) := by decide +kernel
theorem d_Rules_init_67 : decode b_Rules_init 67 = .ok (.iastore, 1) := by decide +kernel
theorem d_Rules_init_68 : decode b_Rules_init 68 = .ok (.iinc 2 1, 3) := by decide +kernel
theorem d_Rules_init_71 : decode b_Rules_init 71 = .ok (.goto (-16), 3) := by decide +kernel
theorem d_Rules_init_74 : decode b_Rules_init 74 = .ok (.return_, 1) := by decide +kernel
abbrev b_Rules_closed : ByteArray := prog_4_method_2_code
def y_Rules_closed : MethodName := ⟨"SyntaxTrees$Rules", "closed", "()I"⟩
def w_Rules_closed : List Cond := .code y_Rules_closed b_Rules_closed 1 (some .int) :: TBL
theorem hd_Rules_closed : y_Rules_closed.cls = "SyntaxTrees$Rules" ∧ y_Rules_closed.cls ≠ "java/lang/invoke/MethodHandle" ∧ y_Rules_closed.cls ≠ "java/lang/invoke/VarHandle" ∧ (parseMethodDescriptor y_Rules_closed.desc).map (fun d => d.parameters.length) = some 0 := by decide +kernel
theorem d_Rules_closed_0 : decode b_Rules_closed 0 = .ok (.aload_n 0, 1) := by decide +kernel
theorem d_Rules_closed_1 : decode b_Rules_closed 1 = .ok (.getfield 31, 3) := by decide +kernel
theorem d_Rules_closed_4 : decode b_Rules_closed 4 = .ok (.ireturn, 1) := by decide +kernel
abbrev b_Rules_used : ByteArray := prog_4_method_3_code
def y_Rules_used : MethodName := ⟨"SyntaxTrees$Rules", "used", "()I"⟩
def w_Rules_used : List Cond := .code y_Rules_used b_Rules_used 1 (some .int) :: TBL
theorem hd_Rules_used : y_Rules_used.cls = "SyntaxTrees$Rules" ∧ y_Rules_used.cls ≠ "java/lang/invoke/MethodHandle" ∧ y_Rules_used.cls ≠ "java/lang/invoke/VarHandle" ∧ (parseMethodDescriptor y_Rules_used.desc).map (fun d => d.parameters.length) = some 0 := by decide +kernel
theorem d_Rules_used_0 : decode b_Rules_used 0 = .ok (.aload_n 0, 1) := by decide +kernel
theorem d_Rules_used_1 : decode b_Rules_used 1 = .ok (.getfield 35, 3) := by decide +kernel
theorem d_Rules_used_4 : decode b_Rules_used 4 = .ok (.ireturn, 1) := by decide +kernel
abbrev b_Rules_below : ByteArray := prog_4_method_4_code
def y_Rules_below : MethodName := ⟨"SyntaxTrees$Rules", "below", "(I)I"⟩
def w_Rules_below : List Cond := .code y_Rules_below b_Rules_below 2 (some .int) :: TBL
theorem hd_Rules_below : y_Rules_below.cls = "SyntaxTrees$Rules" ∧ y_Rules_below.cls ≠ "java/lang/invoke/MethodHandle" ∧ y_Rules_below.cls ≠ "java/lang/invoke/VarHandle" ∧ (parseMethodDescriptor y_Rules_below.desc).map (fun d => d.parameters.length) = some 1 := by decide +kernel
theorem d_Rules_below_0 : decode b_Rules_below 0 = .ok (.iconst 0, 1) := by decide +kernel
theorem d_Rules_below_1 : decode b_Rules_below 1 = .ok (.iload_n 1, 1) := by decide +kernel
theorem d_Rules_below_2 : decode b_Rules_below 2 = .ok (.aload_n 0, 1) := by decide +kernel
theorem d_Rules_below_3 : decode b_Rules_below 3 = .ok (.getfield 31, 3) := by decide +kernel
theorem d_Rules_below_6 : decode b_Rules_below 6 = .ok (.invokestatic 38, 3) := by decide +kernel
theorem d_Rules_below_9 : decode b_Rules_below 9 = .ok (.invokestatic 44, 3) := by decide +kernel
theorem d_Rules_below_12 : decode b_Rules_below 12 = .ok (.ireturn, 1) := by decide +kernel
abbrev b_Rules_isClosed : ByteArray := prog_4_method_5_code
def y_Rules_isClosed : MethodName := ⟨"SyntaxTrees$Rules", "isClosed", "(I)Z"⟩
def w_Rules_isClosed : List Cond := .code y_Rules_isClosed b_Rules_isClosed 2 (some .boolean) :: TBL
theorem hd_Rules_isClosed : y_Rules_isClosed.cls = "SyntaxTrees$Rules" ∧ y_Rules_isClosed.cls ≠ "java/lang/invoke/MethodHandle" ∧ y_Rules_isClosed.cls ≠ "java/lang/invoke/VarHandle" ∧ (parseMethodDescriptor y_Rules_isClosed.desc).map (fun d => d.parameters.length) = some 1 := by decide +kernel
theorem d_Rules_isClosed_0 : decode b_Rules_isClosed 0 = .ok (.iload_n 1, 1) := by decide +kernel
theorem d_Rules_isClosed_1 : decode b_Rules_isClosed 1 = .ok (.ifCond .lt 15, 3) := by decide +kernel
theorem d_Rules_isClosed_4 : decode b_Rules_isClosed 4 = .ok (.iload_n 1, 1) := by decide +kernel
theorem d_Rules_isClosed_5 : decode b_Rules_isClosed 5 = .ok (.aload_n 0, 1) := by decide +kernel
theorem d_Rules_isClosed_6 : decode b_Rules_isClosed 6 = .ok (.getfield 31, 3) := by decide +kernel
theorem d_Rules_isClosed_9 : decode b_Rules_isClosed 9 = .ok (.if_icmp .ge 7, 3) := by decide +kernel
theorem d_Rules_isClosed_12 : decode b_Rules_isClosed 12 = .ok (.iconst 1, 1) := by decide +kernel
theorem d_Rules_isClosed_13 : decode b_Rules_isClosed 13 = .ok (.goto 4, 3) := by decide +kernel
theorem d_Rules_isClosed_16 : decode b_Rules_isClosed 16 = .ok (.iconst 0, 1) := by decide +kernel
theorem d_Rules_isClosed_17 : decode b_Rules_isClosed 17 = .ok (.ireturn, 1) := by decide +kernel
abbrev b_Rules_sortOf : ByteArray := prog_4_method_6_code
def y_Rules_sortOf : MethodName := ⟨"SyntaxTrees$Rules", "sortOf", "(I)I"⟩
def w_Rules_sortOf : List Cond := .code y_Rules_sortOf b_Rules_sortOf 2 (some .int) :: TBL
theorem hd_Rules_sortOf : y_Rules_sortOf.cls = "SyntaxTrees$Rules" ∧ y_Rules_sortOf.cls ≠ "java/lang/invoke/MethodHandle" ∧ y_Rules_sortOf.cls ≠ "java/lang/invoke/VarHandle" ∧ (parseMethodDescriptor y_Rules_sortOf.desc).map (fun d => d.parameters.length) = some 1 := by decide +kernel
theorem d_Rules_sortOf_0 : decode b_Rules_sortOf 0 = .ok (.aload_n 0, 1) := by decide +kernel
theorem d_Rules_sortOf_1 : decode b_Rules_sortOf 1 = .ok (.iload_n 1, 1) := by decide +kernel
theorem d_Rules_sortOf_2 : decode b_Rules_sortOf 2 = .ok (.invokevirtual 47, 3) := by decide +kernel
theorem d_Rules_sortOf_5 : decode b_Rules_sortOf 5 = .ok (.ifCond .eq 12, 3) := by decide +kernel
theorem d_Rules_sortOf_8 : decode b_Rules_sortOf 8 = .ok (.aload_n 0, 1) := by decide +kernel
theorem d_Rules_sortOf_9 : decode b_Rules_sortOf 9 = .ok (.getfield 9, 3) := by decide +kernel
theorem d_Rules_sortOf_12 : decode b_Rules_sortOf 12 = .ok (.iload_n 1, 1) := by decide +kernel
theorem d_Rules_sortOf_13 : decode b_Rules_sortOf 13 = .ok (.iaload, 1) := by decide +kernel
theorem d_Rules_sortOf_14 : decode b_Rules_sortOf 14 = .ok (.goto 4, 3) := by decide +kernel
theorem d_Rules_sortOf_17 : decode b_Rules_sortOf 17 = .ok (.iconst (-1), 1) := by decide +kernel
theorem d_Rules_sortOf_18 : decode b_Rules_sortOf 18 = .ok (.ireturn, 1) := by decide +kernel
abbrev b_Rules_firstOf : ByteArray := prog_4_method_7_code
def y_Rules_firstOf : MethodName := ⟨"SyntaxTrees$Rules", "firstOf", "(I)I"⟩
def w_Rules_firstOf : List Cond := .code y_Rules_firstOf b_Rules_firstOf 2 (some .int) :: TBL
theorem hd_Rules_firstOf : y_Rules_firstOf.cls = "SyntaxTrees$Rules" ∧ y_Rules_firstOf.cls ≠ "java/lang/invoke/MethodHandle" ∧ y_Rules_firstOf.cls ≠ "java/lang/invoke/VarHandle" ∧ (parseMethodDescriptor y_Rules_firstOf.desc).map (fun d => d.parameters.length) = some 1 := by decide +kernel
theorem d_Rules_firstOf_0 : decode b_Rules_firstOf 0 = .ok (.iload_n 1, 1) := by decide +kernel
theorem d_Rules_firstOf_1 : decode b_Rules_firstOf 1 = .ok (.ifCond .lt 20, 3) := by decide +kernel
theorem d_Rules_firstOf_4 : decode b_Rules_firstOf 4 = .ok (.iload_n 1, 1) := by decide +kernel
theorem d_Rules_firstOf_5 : decode b_Rules_firstOf 5 = .ok (.aload_n 0, 1) := by decide +kernel
theorem d_Rules_firstOf_6 : decode b_Rules_firstOf 6 = .ok (.getfield 31, 3) := by decide +kernel
theorem d_Rules_firstOf_9 : decode b_Rules_firstOf 9 = .ok (.if_icmp .gt 12, 3) := by decide +kernel
theorem d_Rules_firstOf_12 : decode b_Rules_firstOf 12 = .ok (.aload_n 0, 1) := by decide +kernel
theorem d_Rules_firstOf_13 : decode b_Rules_firstOf 13 = .ok (.getfield 18, 3) := by decide +kernel
theorem d_Rules_firstOf_16 : decode b_Rules_firstOf 16 = .ok (.iload_n 1, 1) := by decide +kernel
theorem d_Rules_firstOf_17 : decode b_Rules_firstOf 17 = .ok (.iaload, 1) := by decide +kernel
theorem d_Rules_firstOf_18 : decode b_Rules_firstOf 18 = .ok (.goto 7, 3) := by decide +kernel
theorem d_Rules_firstOf_21 : decode b_Rules_firstOf 21 = .ok (.aload_n 0, 1) := by decide +kernel
theorem d_Rules_firstOf_22 : decode b_Rules_firstOf 22 = .ok (.getfield 35, 3) := by decide +kernel
theorem d_Rules_firstOf_25 : decode b_Rules_firstOf 25 = .ok (.ireturn, 1) := by decide +kernel
abbrev b_Rules_lengthOf : ByteArray := prog_4_method_8_code
def y_Rules_lengthOf : MethodName := ⟨"SyntaxTrees$Rules", "lengthOf", "(I)I"⟩
def w_Rules_lengthOf : List Cond := .code y_Rules_lengthOf b_Rules_lengthOf 2 (some .int) :: TBL
theorem hd_Rules_lengthOf : y_Rules_lengthOf.cls = "SyntaxTrees$Rules" ∧ y_Rules_lengthOf.cls ≠ "java/lang/invoke/MethodHandle" ∧ y_Rules_lengthOf.cls ≠ "java/lang/invoke/VarHandle" ∧ (parseMethodDescriptor y_Rules_lengthOf.desc).map (fun d => d.parameters.length) = some 1 := by decide +kernel
theorem d_Rules_lengthOf_0 : decode b_Rules_lengthOf 0 = .ok (.aload_n 0, 1) := by decide +kernel
theorem d_Rules_lengthOf_1 : decode b_Rules_lengthOf 1 = .ok (.iload_n 1, 1) := by decide +kernel
theorem d_Rules_lengthOf_2 : decode b_Rules_lengthOf 2 = .ok (.invokevirtual 47, 3) := by decide +kernel
theorem d_Rules_lengthOf_5 : decode b_Rules_lengthOf 5 = .ok (.ifCond .eq 21, 3) := by decide +kernel
theorem d_Rules_lengthOf_8 : decode b_Rules_lengthOf 8 = .ok (.aload_n 0, 1) := by decide +kernel
theorem d_Rules_lengthOf_9 : decode b_Rules_lengthOf 9 = .ok (.getfield 18, 3) := by decide +kernel
theorem d_Rules_lengthOf_12 : decode b_Rules_lengthOf 12 = .ok (.iload_n 1, 1) := by decide +kernel
theorem d_Rules_lengthOf_13 : decode b_Rules_lengthOf 13 = .ok (.iconst 1, 1) := by decide +kernel
theorem d_Rules_lengthOf_14 : decode b_Rules_lengthOf 14 = .ok (.iadd, 1) := by decide +kernel
theorem d_Rules_lengthOf_15 : decode b_Rules_lengthOf 15 = .ok (.iaload, 1) := by decide +kernel
theorem d_Rules_lengthOf_16 : decode b_Rules_lengthOf 16 = .ok (.aload_n 0, 1) := by decide +kernel
theorem d_Rules_lengthOf_17 : decode b_Rules_lengthOf 17 = .ok (.getfield 18, 3) := by decide +kernel
theorem d_Rules_lengthOf_20 : decode b_Rules_lengthOf 20 = .ok (.iload_n 1, 1) := by decide +kernel
theorem d_Rules_lengthOf_21 : decode b_Rules_lengthOf 21 = .ok (.iaload, 1) := by decide +kernel
theorem d_Rules_lengthOf_22 : decode b_Rules_lengthOf 22 = .ok (.isub, 1) := by decide +kernel
theorem d_Rules_lengthOf_23 : decode b_Rules_lengthOf 23 = .ok (.goto 4, 3) := by decide +kernel
theorem d_Rules_lengthOf_26 : decode b_Rules_lengthOf 26 = .ok (.iconst 0, 1) := by decide +kernel
theorem d_Rules_lengthOf_27 : decode b_Rules_lengthOf 27 = .ok (.ireturn, 1) := by decide +kernel
abbrev b_Rules_symbolAt : ByteArray := prog_4_method_9_code
def y_Rules_symbolAt : MethodName := ⟨"SyntaxTrees$Rules", "symbolAt", "(I)I"⟩
def w_Rules_symbolAt : List Cond := .code y_Rules_symbolAt b_Rules_symbolAt 2 (some .int) :: TBL
theorem hd_Rules_symbolAt : y_Rules_symbolAt.cls = "SyntaxTrees$Rules" ∧ y_Rules_symbolAt.cls ≠ "java/lang/invoke/MethodHandle" ∧ y_Rules_symbolAt.cls ≠ "java/lang/invoke/VarHandle" ∧ (parseMethodDescriptor y_Rules_symbolAt.desc).map (fun d => d.parameters.length) = some 1 := by decide +kernel
theorem d_Rules_symbolAt_0 : decode b_Rules_symbolAt 0 = .ok (.iload_n 1, 1) := by decide +kernel
theorem d_Rules_symbolAt_1 : decode b_Rules_symbolAt 1 = .ok (.ifCond .lt 20, 3) := by decide +kernel
theorem d_Rules_symbolAt_4 : decode b_Rules_symbolAt 4 = .ok (.iload_n 1, 1) := by decide +kernel
theorem d_Rules_symbolAt_5 : decode b_Rules_symbolAt 5 = .ok (.aload_n 0, 1) := by decide +kernel
theorem d_Rules_symbolAt_6 : decode b_Rules_symbolAt 6 = .ok (.getfield 35, 3) := by decide +kernel
theorem d_Rules_symbolAt_9 : decode b_Rules_symbolAt 9 = .ok (.if_icmp .ge 12, 3) := by decide +kernel
theorem d_Rules_symbolAt_12 : decode b_Rules_symbolAt 12 = .ok (.aload_n 0, 1) := by decide +kernel
theorem d_Rules_symbolAt_13 : decode b_Rules_symbolAt 13 = .ok (.getfield 15, 3) := by decide +kernel
theorem d_Rules_symbolAt_16 : decode b_Rules_symbolAt 16 = .ok (.iload_n 1, 1) := by decide +kernel
theorem d_Rules_symbolAt_17 : decode b_Rules_symbolAt 17 = .ok (.iaload, 1) := by decide +kernel
theorem d_Rules_symbolAt_18 : decode b_Rules_symbolAt 18 = .ok (.goto 4, 3) := by decide +kernel
theorem d_Rules_symbolAt_21 : decode b_Rules_symbolAt 21 = .ok (.iconst (-1), 1) := by decide +kernel
theorem d_Rules_symbolAt_22 : decode b_Rules_symbolAt 22 = .ok (.ireturn, 1) := by decide +kernel
abbrev b_Rules_newestWrap : ByteArray := prog_4_method_10_code
def y_Rules_newestWrap : MethodName := ⟨"SyntaxTrees$Rules", "newestWrap", "(I)I"⟩
def w_Rules_newestWrap : List Cond := .code y_Rules_newestWrap b_Rules_newestWrap 2 (some .int) :: TBL
theorem hd_Rules_newestWrap : y_Rules_newestWrap.cls = "SyntaxTrees$Rules" ∧ y_Rules_newestWrap.cls ≠ "java/lang/invoke/MethodHandle" ∧ y_Rules_newestWrap.cls ≠ "java/lang/invoke/VarHandle" ∧ (parseMethodDescriptor y_Rules_newestWrap.desc).map (fun d => d.parameters.length) = some 1 := by decide +kernel
theorem d_Rules_newestWrap_0 : decode b_Rules_newestWrap 0 = .ok (.iload_n 1, 1) := by decide +kernel
theorem d_Rules_newestWrap_1 : decode b_Rules_newestWrap 1 = .ok (.invokestatic 51, 3) := by decide +kernel
theorem d_Rules_newestWrap_4 : decode b_Rules_newestWrap 4 = .ok (.ifCond .eq 12, 3) := by decide +kernel
theorem d_Rules_newestWrap_7 : decode b_Rules_newestWrap 7 = .ok (.aload_n 0, 1) := by decide +kernel
theorem d_Rules_newestWrap_8 : decode b_Rules_newestWrap 8 = .ok (.getfield 21, 3) := by decide +kernel
theorem d_Rules_newestWrap_11 : decode b_Rules_newestWrap 11 = .ok (.iload_n 1, 1) := by decide +kernel
theorem d_Rules_newestWrap_12 : decode b_Rules_newestWrap 12 = .ok (.iaload, 1) := by decide +kernel
theorem d_Rules_newestWrap_13 : decode b_Rules_newestWrap 13 = .ok (.goto 4, 3) := by decide +kernel
theorem d_Rules_newestWrap_16 : decode b_Rules_newestWrap 16 = .ok (.iconst (-1), 1) := by decide +kernel
theorem d_Rules_newestWrap_17 : decode b_Rules_newestWrap 17 = .ok (.ireturn, 1) := by decide +kernel
abbrev b_Rules_olderWrap : ByteArray := prog_4_method_11_code
def y_Rules_olderWrap : MethodName := ⟨"SyntaxTrees$Rules", "olderWrap", "(I)I"⟩
def w_Rules_olderWrap : List Cond := .code y_Rules_olderWrap b_Rules_olderWrap 2 (some .int) :: TBL
theorem hd_Rules_olderWrap : y_Rules_olderWrap.cls = "SyntaxTrees$Rules" ∧ y_Rules_olderWrap.cls ≠ "java/lang/invoke/MethodHandle" ∧ y_Rules_olderWrap.cls ≠ "java/lang/invoke/VarHandle" ∧ (parseMethodDescriptor y_Rules_olderWrap.desc).map (fun d => d.parameters.length) = some 1 := by decide +kernel
theorem d_Rules_olderWrap_0 : decode b_Rules_olderWrap 0 = .ok (.aload_n 0, 1) := by decide +kernel
theorem d_Rules_olderWrap_1 : decode b_Rules_olderWrap 1 = .ok (.iload_n 1, 1) := by decide +kernel
theorem d_Rules_olderWrap_2 : decode b_Rules_olderWrap 2 = .ok (.invokevirtual 47, 3) := by decide +kernel
theorem d_Rules_olderWrap_5 : decode b_Rules_olderWrap 5 = .ok (.ifCond .eq 12, 3) := by decide +kernel
theorem d_Rules_olderWrap_8 : decode b_Rules_olderWrap 8 = .ok (.aload_n 0, 1) := by decide +kernel
theorem d_Rules_olderWrap_9 : decode b_Rules_olderWrap 9 = .ok (.getfield 24, 3) := by decide +kernel
theorem d_Rules_olderWrap_12 : decode b_Rules_olderWrap 12 = .ok (.iload_n 1, 1) := by decide +kernel
theorem d_Rules_olderWrap_13 : decode b_Rules_olderWrap 13 = .ok (.iaload, 1) := by decide +kernel
theorem d_Rules_olderWrap_14 : decode b_Rules_olderWrap 14 = .ok (.goto 4, 3) := by decide +kernel
theorem d_Rules_olderWrap_17 : decode b_Rules_olderWrap 17 = .ok (.iconst (-1), 1) := by decide +kernel
theorem d_Rules_olderWrap_18 : decode b_Rules_olderWrap 18 = .ok (.ireturn, 1) := by decide +kernel
abbrev b_Rules_open : ByteArray := prog_4_method_12_code
def y_Rules_open : MethodName := ⟨"SyntaxTrees$Rules", "open", "(I)I"⟩
def w_Rules_open : List Cond := .code y_Rules_open b_Rules_open 2 (some .int) :: TBL
theorem hd_Rules_open : y_Rules_open.cls = "SyntaxTrees$Rules" ∧ y_Rules_open.cls ≠ "java/lang/invoke/MethodHandle" ∧ y_Rules_open.cls ≠ "java/lang/invoke/VarHandle" ∧ (parseMethodDescriptor y_Rules_open.desc).map (fun d => d.parameters.length) = some 1 := by decide +kernel
theorem d_Rules_open_0 : decode b_Rules_open 0 = .ok (.aload_n 0, 1) := by decide +kernel
theorem d_Rules_open_1 : decode b_Rules_open 1 = .ok (.getfield 54, 3) := by decide +kernel
theorem d_Rules_open_4 : decode b_Rules_open 4 = .ok (.ifCond .ne 24, 3) := by decide +kernel
theorem d_Rules_open_7 : decode b_Rules_open 7 = .ok (.aload_n 0, 1) := by decide +kernel
theorem d_Rules_open_8 : decode b_Rules_open 8 = .ok (.getfield 31, 3) := by decide +kernel
theorem d_Rules_open_11 : decode b_Rules_open 11 = .ok (.sipush 1500, 3) := by decide +kernel
theorem d_Rules_open_14 : decode b_Rules_open 14 = .ok (.if_icmp .ge 14, 3) := by decide +kernel
theorem d_Rules_open_17 : decode b_Rules_open 17 = .ok (.aload_n 0, 1) := by decide +kernel
theorem d_Rules_open_18 : decode b_Rules_open 18 = .ok (.getfield 27, 3) := by decide +kernel
theorem d_Rules_open_21 : decode b_Rules_open 21 = .ok (.iload_n 1, 1) := by decide +kernel
theorem d_Rules_open_22 : decode b_Rules_open 22 = .ok (.invokevirtual 58, 3) := by decide +kernel
theorem d_Rules_open_25 : decode b_Rules_open 25 = .ok (.ifCond .ne 5, 3) := by decide +kernel
theorem d_Rules_open_28 : decode b_Rules_open 28 = .ok (.iconst (-1), 1) := by decide +kernel
theorem d_Rules_open_29 : decode b_Rules_open 29 = .ok (.ireturn, 1) := by decide +kernel
theorem d_Rules_open_30 : decode b_Rules_open 30 = .ok (.aload_n 0, 1) := by decide +kernel
theorem d_Rules_open_31 : decode b_Rules_open 31 = .ok (.getfield 9, 3) := by decide +kernel
theorem d_Rules_open_34 : decode b_Rules_open 34 = .ok (.aload_n 0, 1) := by decide +kernel
theorem d_Rules_open_35 : decode b_Rules_open 35 = .ok (.getfield 31, 3) := by decide +kernel
theorem d_Rules_open_38 : decode b_Rules_open 38 = .ok (.iload_n 1, 1) := by decide +kernel
theorem d_Rules_open_39 : decode b_Rules_open 39 = .ok (.iastore, 1) := by decide +kernel
theorem d_Rules_open_40 : decode b_Rules_open 40 = .ok (.aload_n 0, 1) := by decide +kernel
theorem d_Rules_open_41 : decode b_Rules_open 41 = .ok (.iconst 1, 1) := by decide +kernel
theorem d_Rules_open_42 : decode b_Rules_open 42 = .ok (.putfield 54, 3) := by decide +kernel
theorem d_Rules_open_45 : decode b_Rules_open 45 = .ok (.aload_n 0, 1) := by decide +kernel
theorem d_Rules_open_46 : decode b_Rules_open 46 = .ok (.getfield 31, 3) := by decide +kernel
theorem d_Rules_open_49 : decode b_Rules_open 49 = .ok (.ireturn, 1) := by decide +kernel
abbrev b_Rules_linkWrap : ByteArray := prog_4_method_15_code
def y_Rules_linkWrap : MethodName := ⟨"SyntaxTrees$Rules", "linkWrap", "(I)V"⟩
def w_Rules_linkWrap : List Cond := .code y_Rules_linkWrap b_Rules_linkWrap 2 none :: TBL
theorem hd_Rules_linkWrap : y_Rules_linkWrap.cls = "SyntaxTrees$Rules" ∧ y_Rules_linkWrap.cls ≠ "java/lang/invoke/MethodHandle" ∧ y_Rules_linkWrap.cls ≠ "java/lang/invoke/VarHandle" ∧ (parseMethodDescriptor y_Rules_linkWrap.desc).map (fun d => d.parameters.length) = some 1 := by decide +kernel
theorem d_Rules_linkWrap_0 : decode b_Rules_linkWrap 0 = .ok (.iload_n 1, 1) := by decide +kernel
theorem d_Rules_linkWrap_1 : decode b_Rules_linkWrap 1 = .ok (.invokestatic 51, 3) := by decide +kernel
theorem d_Rules_linkWrap_4 : decode b_Rules_linkWrap 4 = .ok (.ifCond .eq 28, 3) := by decide +kernel
theorem d_Rules_linkWrap_7 : decode b_Rules_linkWrap 7 = .ok (.aload_n 0, 1) := by decide +kernel
theorem d_Rules_linkWrap_8 : decode b_Rules_linkWrap 8 = .ok (.getfield 24, 3) := by decide +kernel
theorem d_Rules_linkWrap_11 : decode b_Rules_linkWrap 11 = .ok (.aload_n 0, 1) := by decide +kernel
theorem d_Rules_linkWrap_12 : decode b_Rules_linkWrap 12 = .ok (.getfield 31, 3) := by decide +kernel
theorem d_Rules_linkWrap_15 : decode b_Rules_linkWrap 15 = .ok (.aload_n 0, 1) := by decide +kernel
theorem d_Rules_linkWrap_16 : decode b_Rules_linkWrap 16 = .ok (.getfield 21, 3) := by decide +kernel
theorem d_Rules_linkWrap_19 : decode b_Rules_linkWrap 19 = .ok (.iload_n 1, 1) := by decide +kernel
theorem d_Rules_linkWrap_20 : decode b_Rules_linkWrap 20 = .ok (.iaload, 1) := by decide +kernel
theorem d_Rules_linkWrap_21 : decode b_Rules_linkWrap 21 = .ok (.iastore, 1) := by decide +kernel
theorem d_Rules_linkWrap_22 : decode b_Rules_linkWrap 22 = .ok (.aload_n 0, 1) := by decide +kernel
theorem d_Rules_linkWrap_23 : decode b_Rules_linkWrap 23 = .ok (.getfield 21, 3) := by decide +kernel
theorem d_Rules_linkWrap_26 : decode b_Rules_linkWrap 26 = .ok (.iload_n 1, 1) := by decide +kernel
theorem d_Rules_linkWrap_27 : decode b_Rules_linkWrap 27 = .ok (.aload_n 0, 1) := by decide +kernel
theorem d_Rules_linkWrap_28 : decode b_Rules_linkWrap 28 = .ok (.getfield 31, 3) := by decide +kernel
theorem d_Rules_linkWrap_31 : decode b_Rules_linkWrap 31 = .ok (.iastore, 1) := by decide +kernel
theorem d_Rules_linkWrap_32 : decode b_Rules_linkWrap 32 = .ok (.return_, 1) := by decide +kernel
abbrev b_Rules_openLength : ByteArray := prog_4_method_16_code
def y_Rules_openLength : MethodName := ⟨"SyntaxTrees$Rules", "openLength", "()I"⟩
def w_Rules_openLength : List Cond := .code y_Rules_openLength b_Rules_openLength 1 (some .int) :: TBL
theorem hd_Rules_openLength : y_Rules_openLength.cls = "SyntaxTrees$Rules" ∧ y_Rules_openLength.cls ≠ "java/lang/invoke/MethodHandle" ∧ y_Rules_openLength.cls ≠ "java/lang/invoke/VarHandle" ∧ (parseMethodDescriptor y_Rules_openLength.desc).map (fun d => d.parameters.length) = some 0 := by decide +kernel
theorem d_Rules_openLength_0 : decode b_Rules_openLength 0 = .ok (.aload_n 0, 1) := by decide +kernel
theorem d_Rules_openLength_1 : decode b_Rules_openLength 1 = .ok (.getfield 35, 3) := by decide +kernel
theorem d_Rules_openLength_4 : decode b_Rules_openLength 4 = .ok (.aload_n 0, 1) := by decide +kernel
theorem d_Rules_openLength_5 : decode b_Rules_openLength 5 = .ok (.getfield 18, 3) := by decide +kernel
theorem d_Rules_openLength_8 : decode b_Rules_openLength 8 = .ok (.aload_n 0, 1) := by decide +kernel
theorem d_Rules_openLength_9 : decode b_Rules_openLength 9 = .ok (.getfield 31, 3) := by decide +kernel
theorem d_Rules_openLength_12 : decode b_Rules_openLength 12 = .ok (.iaload, 1) := by decide +kernel
theorem d_Rules_openLength_13 : decode b_Rules_openLength 13 = .ok (.isub, 1) := by decide +kernel
theorem d_Rules_openLength_14 : decode b_Rules_openLength 14 = .ok (.ireturn, 1) := by decide +kernel
abbrev b_Rules_openHas : ByteArray := prog_4_method_17_code
def y_Rules_openHas : MethodName := ⟨"SyntaxTrees$Rules", "openHas", "(I)Z"⟩
def w_Rules_openHas : List Cond := .code y_Rules_openHas b_Rules_openHas 3 (some .boolean) :: TBL
theorem hd_Rules_openHas : y_Rules_openHas.cls = "SyntaxTrees$Rules" ∧ y_Rules_openHas.cls ≠ "java/lang/invoke/MethodHandle" ∧ y_Rules_openHas.cls ≠ "java/lang/invoke/VarHandle" ∧ (parseMethodDescriptor y_Rules_openHas.desc).map (fun d => d.parameters.length) = some 1 := by decide +kernel
theorem d_Rules_openHas_0 : decode b_Rules_openHas 0 = .ok (.aload_n 0, 1) := by decide +kernel
theorem d_Rules_openHas_1 : decode b_Rules_openHas 1 = .ok (.getfield 18, 3) := by decide +kernel
theorem d_Rules_openHas_4 : decode b_Rules_openHas 4 = .ok (.aload_n 0, 1) := by decide +kernel
theorem d_Rules_openHas_5 : decode b_Rules_openHas 5 = .ok (.getfield 31, 3) := by decide +kernel
theorem d_Rules_openHas_8 : decode b_Rules_openHas 8 = .ok (.iaload, 1) := by decide +kernel
theorem d_Rules_openHas_9 : decode b_Rules_openHas 9 = .ok (.istore_n 2, 1) := by decide +kernel
theorem d_Rules_openHas_10 : decode b_Rules_openHas 10 = .ok (.iload_n 2, 1) := by decide +kernel
theorem d_Rules_openHas_11 : decode b_Rules_openHas 11 = .ok (.aload_n 0, 1) := by decide +kernel
theorem d_Rules_openHas_12 : decode b_Rules_openHas 12 = .ok (.getfield 35, 3) := by decide +kernel
theorem d_Rules_openHas_15 : decode b_Rules_openHas 15 = .ok (.if_icmp .ge 21, 3) := by decide +kernel
theorem d_Rules_openHas_18 : decode b_Rules_openHas 18 = .ok (.aload_n 0, 1) := by decide +kernel
theorem d_Rules_openHas_19 : decode b_Rules_openHas 19 = .ok (.getfield 15, 3) := by decide +kernel
theorem d_Rules_openHas_22 : decode b_Rules_openHas 22 = .ok (.iload_n 2, 1) := by decide +kernel
theorem d_Rules_openHas_23 : decode b_Rules_openHas 23 = .ok (.iaload, 1) := by decide +kernel
theorem d_Rules_openHas_24 : decode b_Rules_openHas 24 = .ok (.iload_n 1, 1) := by decide +kernel
theorem d_Rules_openHas_25 : decode b_Rules_openHas 25 = .ok (.if_icmp .ne 5, 3) := by decide +kernel
theorem d_Rules_openHas_28 : decode b_Rules_openHas 28 = .ok (.iconst 1, 1) := by decide +kernel
theorem d_Rules_openHas_29 : decode b_Rules_openHas 29 = .ok (.ireturn, 1) := by decide +kernel
theorem d_Rules_openHas_30 : decode b_Rules_openHas 30 = .ok (.iinc 2 1, 3) := by decide +kernel
theorem d_Rules_openHas_33 : decode b_Rules_openHas 33 = .ok (.goto (-23), 3) := by decide +kernel
theorem d_Rules_openHas_36 : decode b_Rules_openHas 36 = .ok (.iconst 0, 1) := by decide +kernel
theorem d_Rules_openHas_37 : decode b_Rules_openHas 37 = .ok (.ireturn, 1) := by decide +kernel
abbrev b_Rules_lengthen : ByteArray := prog_4_method_13_code
def y_Rules_lengthen : MethodName := ⟨"SyntaxTrees$Rules", "lengthen", "(I)I"⟩
def w_Rules_lengthen : List Cond := .code y_Rules_lengthen b_Rules_lengthen 2 (some .int) :: TBL
theorem hd_Rules_lengthen : y_Rules_lengthen.cls = "SyntaxTrees$Rules" ∧ y_Rules_lengthen.cls ≠ "java/lang/invoke/MethodHandle" ∧ y_Rules_lengthen.cls ≠ "java/lang/invoke/VarHandle" ∧ (parseMethodDescriptor y_Rules_lengthen.desc).map (fun d => d.parameters.length) = some 1 := by decide +kernel
theorem d_Rules_lengthen_0 : decode b_Rules_lengthen 0 = .ok (.aload_n 0, 1) := by decide +kernel
theorem d_Rules_lengthen_1 : decode b_Rules_lengthen 1 = .ok (.getfield 54, 3) := by decide +kernel
theorem d_Rules_lengthen_4 : decode b_Rules_lengthen 4 = .ok (.ifCond .eq 23, 3) := by decide +kernel
theorem d_Rules_lengthen_7 : decode b_Rules_lengthen 7 = .ok (.aload_n 0, 1) := by decide +kernel
theorem d_Rules_lengthen_8 : decode b_Rules_lengthen 8 = .ok (.getfield 35, 3) := by decide +kernel
theorem d_Rules_lengthen_11 : decode b_Rules_lengthen 11 = .ok (.sipush 30000, 3) := by decide +kernel
theorem d_Rules_lengthen_14 : decode b_Rules_lengthen 14 = .ok (.if_icmp .ge 13, 3) := by decide +kernel
theorem d_Rules_lengthen_17 : decode b_Rules_lengthen 17 = .ok (.aload_n 0, 1) := by decide +kernel
theorem d_Rules_lengthen_18 : decode b_Rules_lengthen 18 = .ok (.invokevirtual 63, 3) := by decide +kernel
theorem d_Rules_lengthen_21 : decode b_Rules_lengthen 21 = .ok (.sipush 299, 3) := by decide +kernel
theorem d_Rules_lengthen_24 : decode b_Rules_lengthen 24 = .ok (.if_icmp .lt 5, 3) := by decide +kernel
theorem d_Rules_lengthen_27 : decode b_Rules_lengthen 27 = .ok (.iconst (-1), 1) := by decide +kernel
theorem d_Rules_lengthen_28 : decode b_Rules_lengthen 28 = .ok (.ireturn, 1) := by decide +kernel
theorem d_Rules_lengthen_29 : decode b_Rules_lengthen 29 = .ok (.aload_n 0, 1) := by decide +kernel
theorem d_Rules_lengthen_30 : decode b_Rules_lengthen 30 = .ok (.getfield 27, 3) := by decide +kernel
theorem d_Rules_lengthen_33 : decode b_Rules_lengthen 33 = .ok (.iload_n 1, 1) := by decide +kernel
theorem d_Rules_lengthen_34 : decode b_Rules_lengthen 34 = .ok (.invokevirtual 67, 3) := by decide +kernel
theorem d_Rules_lengthen_37 : decode b_Rules_lengthen 37 = .ok (.ifCond .eq 22, 3) := by decide +kernel
theorem d_Rules_lengthen_40 : decode b_Rules_lengthen 40 = .ok (.aload_n 0, 1) := by decide +kernel
theorem d_Rules_lengthen_41 : decode b_Rules_lengthen 41 = .ok (.getfield 27, 3) := by decide +kernel
theorem d_Rules_lengthen_44 : decode b_Rules_lengthen 44 = .ok (.iload_n 1, 1) := by decide +kernel
theorem d_Rules_lengthen_45 : decode b_Rules_lengthen 45 = .ok (.invokevirtual 70, 3) := by decide +kernel
theorem d_Rules_lengthen_48 : decode b_Rules_lengthen 48 = .ok (.ifCond .eq 13, 3) := by decide +kernel
theorem d_Rules_lengthen_51 : decode b_Rules_lengthen 51 = .ok (.aload_n 0, 1) := by decide +kernel
theorem d_Rules_lengthen_52 : decode b_Rules_lengthen 52 = .ok (.iload_n 1, 1) := by decide +kernel
theorem d_Rules_lengthen_53 : decode b_Rules_lengthen 53 = .ok (.invokevirtual 73, 3) := by decide +kernel
theorem d_Rules_lengthen_56 : decode b_Rules_lengthen 56 = .ok (.ifCond .eq 5, 3) := by decide +kernel
theorem d_Rules_lengthen_59 : decode b_Rules_lengthen 59 = .ok (.iconst (-1), 1) := by decide +kernel
theorem d_Rules_lengthen_60 : decode b_Rules_lengthen 60 = .ok (.ireturn, 1) := by decide +kernel
theorem d_Rules_lengthen_61 : decode b_Rules_lengthen 61 = .ok (.aload_n 0, 1) := by decide +kernel
theorem d_Rules_lengthen_62 : decode b_Rules_lengthen 62 = .ok (.getfield 15, 3) := by decide +kernel
theorem d_Rules_lengthen_65 : decode b_Rules_lengthen 65 = .ok (.aload_n 0, 1) := by decide +kernel
theorem d_Rules_lengthen_66 : decode b_Rules_lengthen 66 = .ok (.getfield 35, 3) := by decide +kernel
theorem d_Rules_lengthen_69 : decode b_Rules_lengthen 69 = .ok (.iload_n 1, 1) := by decide +kernel
theorem d_Rules_lengthen_70 : decode b_Rules_lengthen 70 = .ok (.iastore, 1) := by decide +kernel
theorem d_Rules_lengthen_71 : decode b_Rules_lengthen 71 = .ok (.aload_n 0, 1) := by decide +kernel
theorem d_Rules_lengthen_72 : decode b_Rules_lengthen 72 = .ok (.dup, 1) := by decide +kernel
theorem d_Rules_lengthen_73 : decode b_Rules_lengthen 73 = .ok (.getfield 35, 3) := by decide +kernel
theorem d_Rules_lengthen_76 : decode b_Rules_lengthen 76 = .ok (.iconst 1, 1) := by decide +kernel
theorem d_Rules_lengthen_77 : decode b_Rules_lengthen 77 = .ok (.iadd, 1) := by decide +kernel
theorem d_Rules_lengthen_78 : decode b_Rules_lengthen 78 = .ok (.putfield 35, 3) := by decide +kernel
theorem d_Rules_lengthen_81 : decode b_Rules_lengthen 81 = .ok (.aload_n 0, 1) := by decide +kernel
theorem d_Rules_lengthen_82 : decode b_Rules_lengthen 82 = .ok (.invokevirtual 63, 3) := by decide +kernel
theorem d_Rules_lengthen_85 : decode b_Rules_lengthen 85 = .ok (.ireturn, 1) := by decide +kernel
abbrev b_Rules_finish : ByteArray := prog_4_method_14_code
def y_Rules_finish : MethodName := ⟨"SyntaxTrees$Rules", "finish", "()Z"⟩
def w_Rules_finish : List Cond := .code y_Rules_finish b_Rules_finish 1 (some .boolean) :: TBL
theorem hd_Rules_finish : y_Rules_finish.cls = "SyntaxTrees$Rules" ∧ y_Rules_finish.cls ≠ "java/lang/invoke/MethodHandle" ∧ y_Rules_finish.cls ≠ "java/lang/invoke/VarHandle" ∧ (parseMethodDescriptor y_Rules_finish.desc).map (fun d => d.parameters.length) = some 0 := by decide +kernel
theorem d_Rules_finish_0 : decode b_Rules_finish 0 = .ok (.aload_n 0, 1) := by decide +kernel
theorem d_Rules_finish_1 : decode b_Rules_finish 1 = .ok (.getfield 54, 3) := by decide +kernel
theorem d_Rules_finish_4 : decode b_Rules_finish 4 = .ok (.ifCond .eq 10, 3) := by decide +kernel
theorem d_Rules_finish_7 : decode b_Rules_finish 7 = .ok (.aload_n 0, 1) := by decide +kernel
theorem d_Rules_finish_8 : decode b_Rules_finish 8 = .ok (.invokevirtual 63, 3) := by decide +kernel
theorem d_Rules_finish_11 : decode b_Rules_finish 11 = .ok (.ifCond .ne 5, 3) := by decide +kernel
theorem d_Rules_finish_14 : decode b_Rules_finish 14 = .ok (.iconst 0, 1) := by decide +kernel
theorem d_Rules_finish_15 : decode b_Rules_finish 15 = .ok (.ireturn, 1) := by decide +kernel
theorem d_Rules_finish_16 : decode b_Rules_finish 16 = .ok (.aload_n 0, 1) := by decide +kernel
theorem d_Rules_finish_17 : decode b_Rules_finish 17 = .ok (.invokevirtual 63, 3) := by decide +kernel
theorem d_Rules_finish_20 : decode b_Rules_finish 20 = .ok (.iconst 1, 1) := by decide +kernel
theorem d_Rules_finish_21 : decode b_Rules_finish 21 = .ok (.if_icmp .ne 25, 3) := by decide +kernel
theorem d_Rules_finish_24 : decode b_Rules_finish 24 = .ok (.aload_n 0, 1) := by decide +kernel
theorem d_Rules_finish_25 : decode b_Rules_finish 25 = .ok (.aload_n 0, 1) := by decide +kernel
theorem d_Rules_finish_26 : decode b_Rules_finish 26 = .ok (.getfield 27, 3) := by decide +kernel
theorem d_Rules_finish_29 : decode b_Rules_finish 29 = .ok (.aload_n 0, 1) := by decide +kernel
theorem d_Rules_finish_30 : decode b_Rules_finish 30 = .ok (.getfield 15, 3) := by decide +kernel
theorem d_Rules_finish_33 : decode b_Rules_finish 33 = .ok (.aload_n 0, 1) := by decide +kernel
theorem d_Rules_finish_34 : decode b_Rules_finish 34 = .ok (.getfield 35, 3) := by decide +kernel
theorem d_Rules_finish_37 : decode b_Rules_finish 37 = .ok (.iconst 1, 1) := by decide +kernel
theorem d_Rules_finish_38 : decode b_Rules_finish 38 = .ok (.isub, 1) := by decide +kernel
theorem d_Rules_finish_39 : decode b_Rules_finish 39 = .ok (.iaload, 1) := by decide +kernel
theorem d_Rules_finish_40 : decode b_Rules_finish 40 = .ok (.invokevirtual 76, 3) := by decide +kernel
theorem d_Rules_finish_43 : decode b_Rules_finish 43 = .ok (.invokevirtual 80, 3) := by decide +kernel
theorem d_Rules_finish_46 : decode b_Rules_finish 46 = .ok (.aload_n 0, 1) := by decide +kernel
theorem d_Rules_finish_47 : decode b_Rules_finish 47 = .ok (.dup, 1) := by decide +kernel
theorem d_Rules_finish_48 : decode b_Rules_finish 48 = .ok (.getfield 31, 3) := by decide +kernel
theorem d_Rules_finish_51 : decode b_Rules_finish 51 = .ok (.iconst 1, 1) := by decide +kernel
theorem d_Rules_finish_52 : decode b_Rules_finish 52 = .ok (.iadd, 1) := by decide +kernel
theorem d_Rules_finish_53 : decode b_Rules_finish 53 = .ok (.putfield 31, 3) := by decide +kernel
theorem d_Rules_finish_56 : decode b_Rules_finish 56 = .ok (.aload_n 0, 1) := by decide +kernel
theorem d_Rules_finish_57 : decode b_Rules_finish 57 = .ok (.getfield 18, 3) := by decide +kernel
theorem d_Rules_finish_60 : decode b_Rules_finish 60 = .ok (.aload_n 0, 1) := by decide +kernel
theorem d_Rules_finish_61 : decode b_Rules_finish 61 = .ok (.getfield 31, 3) := by decide +kernel
theorem d_Rules_finish_64 : decode b_Rules_finish 64 = .ok (.aload_n 0, 1) := by decide +kernel
theorem d_Rules_finish_65 : decode b_Rules_finish 65 = .ok (.getfield 35, 3) := by decide +kernel
theorem d_Rules_finish_68 : decode b_Rules_finish 68 = .ok (.iastore, 1) := by decide +kernel
theorem d_Rules_finish_69 : decode b_Rules_finish 69 = .ok (.aload_n 0, 1) := by decide +kernel
theorem d_Rules_finish_70 : decode b_Rules_finish 70 = .ok (.iconst 0, 1) := by decide +kernel
theorem d_Rules_finish_71 : decode b_Rules_finish 71 = .ok (.putfield 54, 3) := by decide +kernel
theorem d_Rules_finish_74 : decode b_Rules_finish 74 = .ok (.iconst 1, 1) := by decide +kernel
theorem d_Rules_finish_75 : decode b_Rules_finish 75 = .ok (.ireturn, 1) := by decide +kernel
