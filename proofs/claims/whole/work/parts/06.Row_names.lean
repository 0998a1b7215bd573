abbrev b_Row_init : ByteArray := prog_3_method_1_code
def y_Row_init : MethodName := ⟨"SyntaxTrees$Row", "<init>", "()V"⟩
def w_Row_init : List Cond := .code y_Row_init b_Row_init 1 none :: TBL
theorem hd_Row_init : y_Row_init.cls = "SyntaxTrees$Row" ∧ y_Row_init.cls ≠ "java/lang/invoke/MethodHandle" ∧ y_Row_init.cls ≠ "java/lang/invoke/VarHandle" ∧ (parseMethodDescriptor y_Row_init.desc).map (fun d => d.parameters.length) = some 0 := by decide +kernel
theorem d_Row_init_0 : decode b_Row_init 0 = .ok (.aload_n 0, 1) := by decide +kernel
theorem d_Row_init_1 : decode b_Row_init 1 = .ok (.invokespecial 3, 3) := by decide +kernel
theorem d_Row_init_4 : decode b_Row_init 4 = .ok (.aload_n 0, 1) := by decide +kernel
theorem d_Row_init_5 : decode b_Row_init 5 = .ok (.bipush 59, 2) := by decide +kernel
theorem d_Row_init_7 : decode b_Row_init 7 = .ok (.newarray .int, 2) := by decide +kernel
theorem d_Row_init_9 : decode b_Row_init 9 = .ok (.putfield 9, 3) := by decide +kernel
theorem d_Row_init_12 : decode b_Row_init 12 = .ok (.return_, 1) := by decide +kernel
abbrev b_Row_length : ByteArray := prog_3_method_2_code
def y_Row_length : MethodName := ⟨"SyntaxTrees$Row", "length", "()I"⟩
def w_Row_length : List Cond := .code y_Row_length b_Row_length 1 (some .int) :: TBL
theorem hd_Row_length : y_Row_length.cls = "SyntaxTrees$Row" ∧ y_Row_length.cls ≠ "java/lang/invoke/MethodHandle" ∧ y_Row_length.cls ≠ "java/lang/invoke/VarHandle" ∧ (parseMethodDescriptor y_Row_length.desc).map (fun d => d.parameters.length) = some 0 := by decide +kernel
theorem d_Row_length_0 : decode b_Row_length 0 = .ok (.aload_n 0, 1) := by decide +kernel
theorem d_Row_length_1 : decode b_Row_length 1 = .ok (.getfield 15, 3) := by decide +kernel
theorem d_Row_length_4 : decode b_Row_length 4 = .ok (.ireturn, 1) := by decide +kernel
abbrev b_Row_symbolAt : ByteArray := prog_3_method_3_code
def y_Row_symbolAt : MethodName := ⟨"SyntaxTrees$Row", "symbolAt", "(I)I"⟩
def w_Row_symbolAt : List Cond := .code y_Row_symbolAt b_Row_symbolAt 2 (some .int) :: TBL
theorem hd_Row_symbolAt : y_Row_symbolAt.cls = "SyntaxTrees$Row" ∧ y_Row_symbolAt.cls ≠ "java/lang/invoke/MethodHandle" ∧ y_Row_symbolAt.cls ≠ "java/lang/invoke/VarHandle" ∧ (parseMethodDescriptor y_Row_symbolAt.desc).map (fun d => d.parameters.length) = some 1 := by decide +kernel
theorem d_Row_symbolAt_0 : decode b_Row_symbolAt 0 = .ok (.iload_n 1, 1) := by decide +kernel
theorem d_Row_symbolAt_1 : decode b_Row_symbolAt 1 = .ok (.ifCond .lt 20, 3) := by decide +kernel
theorem d_Row_symbolAt_4 : decode b_Row_symbolAt 4 = .ok (.iload_n 1, 1) := by decide +kernel
theorem d_Row_symbolAt_5 : decode b_Row_symbolAt 5 = .ok (.aload_n 0, 1) := by decide +kernel
theorem d_Row_symbolAt_6 : decode b_Row_symbolAt 6 = .ok (.getfield 15, 3) := by decide +kernel
theorem d_Row_symbolAt_9 : decode b_Row_symbolAt 9 = .ok (.if_icmp .ge 12, 3) := by decide +kernel
theorem d_Row_symbolAt_12 : decode b_Row_symbolAt 12 = .ok (.aload_n 0, 1) := by decide +kernel
theorem d_Row_symbolAt_13 : decode b_Row_symbolAt 13 = .ok (.getfield 9, 3) := by decide +kernel
theorem d_Row_symbolAt_16 : decode b_Row_symbolAt 16 = .ok (.iload_n 1, 1) := by decide +kernel
theorem d_Row_symbolAt_17 : decode b_Row_symbolAt 17 = .ok (.iaload, 1) := by decide +kernel
theorem d_Row_symbolAt_18 : decode b_Row_symbolAt 18 = .ok (.goto 4, 3) := by decide +kernel
theorem d_Row_symbolAt_21 : decode b_Row_symbolAt 21 = .ok (.iconst (-1), 1) := by decide +kernel
theorem d_Row_symbolAt_22 : decode b_Row_symbolAt 22 = .ok (.ireturn, 1) := by decide +kernel
abbrev b_Row_lengthen : ByteArray := prog_3_method_4_code
def y_Row_lengthen : MethodName := ⟨"SyntaxTrees$Row", "lengthen", "(I)I"⟩
def w_Row_lengthen : List Cond := .code y_Row_lengthen b_Row_lengthen 2 (some .int) :: TBL
theorem hd_Row_lengthen : y_Row_lengthen.cls = "SyntaxTrees$Row" ∧ y_Row_lengthen.cls ≠ "java/lang/invoke/MethodHandle" ∧ y_Row_lengthen.cls ≠ "java/lang/invoke/VarHandle" ∧ (parseMethodDescriptor y_Row_lengthen.desc).map (fun d => d.parameters.length) = some 1 := by decide +kernel
theorem d_Row_lengthen_0 : decode b_Row_lengthen 0 = .ok (.aload_n 0, 1) := by decide +kernel
theorem d_Row_lengthen_1 : decode b_Row_lengthen 1 = .ok (.getfield 15, 3) := by decide +kernel
theorem d_Row_lengthen_4 : decode b_Row_lengthen 4 = .ok (.bipush 59, 2) := by decide +kernel
theorem d_Row_lengthen_6 : decode b_Row_lengthen 6 = .ok (.if_icmp .lt 5, 3) := by decide +kernel
theorem d_Row_lengthen_9 : decode b_Row_lengthen 9 = .ok (.iconst (-1), 1) := by decide +kernel
theorem d_Row_lengthen_10 : decode b_Row_lengthen 10 = .ok (.ireturn, 1) := by decide +kernel
theorem d_Row_lengthen_11 : decode b_Row_lengthen 11 = .ok (.aload_n 0, 1) := by decide +kernel
theorem d_Row_lengthen_12 : decode b_Row_lengthen 12 = .ok (.getfield 9, 3) := by decide +kernel
theorem d_Row_lengthen_15 : decode b_Row_lengthen 15 = .ok (.aload_n 0, 1) := by decide +kernel
theorem d_Row_lengthen_16 : decode b_Row_lengthen 16 = .ok (.getfield 15, 3) := by decide +kernel
theorem d_Row_lengthen_19 : decode b_Row_lengthen 19 = .ok (.iload_n 1, 1) := by decide +kernel
theorem d_Row_lengthen_20 : decode b_Row_lengthen 20 = .ok (.iastore, 1) := by decide +kernel
theorem d_Row_lengthen_21 : decode b_Row_lengthen 21 = .ok (.aload_n 0, 1) := by decide +kernel
theorem d_Row_lengthen_22 : decode b_Row_lengthen 22 = .ok (.dup, 1) := by decide +kernel
theorem d_Row_lengthen_23 : decode b_Row_lengthen 23 = .ok (.getfield 15, 3) := by decide +kernel
theorem d_Row_lengthen_26 : decode b_Row_lengthen 26 = .ok (.iconst 1, 1) := by decide +kernel
theorem d_Row_lengthen_27 : decode b_Row_lengthen 27 = .ok (.iadd, 1) := by decide +kernel
theorem d_Row_lengthen_28 : decode b_Row_lengthen 28 = .ok (.putfield 15, 3) := by decide +kernel
theorem d_Row_lengthen_31 : decode b_Row_lengthen 31 = .ok (.aload_n 0, 1) := by decide +kernel
theorem d_Row_lengthen_32 : decode b_Row_lengthen 32 = .ok (.getfield 15, 3) := by decide +kernel
theorem d_Row_lengthen_35 : decode b_Row_lengthen 35 = .ok (.ireturn, 1) := by decide +kernel
abbrev b_Row_clear : ByteArray := prog_3_method_5_code
def y_Row_clear : MethodName := ⟨"SyntaxTrees$Row", "clear", "()I"⟩
def w_Row_clear : List Cond := .code y_Row_clear b_Row_clear 2 (some .int) :: TBL
theorem hd_Row_clear : y_Row_clear.cls = "SyntaxTrees$Row" ∧ y_Row_clear.cls ≠ "java/lang/invoke/MethodHandle" ∧ y_Row_clear.cls ≠ "java/lang/invoke/VarHandle" ∧ (parseMethodDescriptor y_Row_clear.desc).map (fun d => d.parameters.length) = some 0 := by decide +kernel
theorem d_Row_clear_0 : decode b_Row_clear 0 = .ok (.aload_n 0, 1) := by decide +kernel
theorem d_Row_clear_1 : decode b_Row_clear 1 = .ok (.getfield 15, 3) := by decide +kernel
theorem d_Row_clear_4 : decode b_Row_clear 4 = .ok (.istore_n 1, 1) := by decide +kernel
theorem d_Row_clear_5 : decode b_Row_clear 5 = .ok (.aload_n 0, 1) := by decide +kernel
theorem d_Row_clear_6 : decode b_Row_clear 6 = .ok (.iconst 0, 1) := by decide +kernel
theorem d_Row_clear_7 : decode b_Row_clear 7 = .ok (.putfield 15, 3) := by decide +kernel
theorem d_Row_clear_10 : decode b_Row_clear 10 = .ok (.iload_n 1, 1) := by decide +kernel
theorem d_Row_clear_11 : decode b_Row_clear 11 = .ok (.ireturn, 1) := by decide +kernel
abbrev b_Row_copy : ByteArray := prog_3_method_6_code
def y_Row_copy : MethodName := ⟨"SyntaxTrees$Row", "copy", "(LSyntaxTrees$Row;)V"⟩
def w_Row_copy : List Cond := .code y_Row_copy b_Row_copy 3 none :: TBL
theorem hd_Row_copy : y_Row_copy.cls = "SyntaxTrees$Row" ∧ y_Row_copy.cls ≠ "java/lang/invoke/MethodHandle" ∧ y_Row_copy.cls ≠ "java/lang/invoke/VarHandle" ∧ (parseMethodDescriptor y_Row_copy.desc).map (fun d => d.parameters.length) = some 1 := by decide +kernel
theorem d_Row_copy_0 : decode b_Row_copy 0 = .ok (.aload_n 0, 1) := by decide +kernel
theorem d_Row_copy_1 : decode b_Row_copy 1 = .ok (.aload_n 1, 1) := by decide +kernel
theorem d_Row_copy_2 : decode b_Row_copy 2 = .ok (.getfield 15, 3) := by decide +kernel
theorem d_Row_copy_5 : decode b_Row_copy 5 = .ok (.putfield 15, 3) := by decide +kernel
theorem d_Row_copy_8 : decode b_Row_copy 8 = .ok (.iconst 0, 1) := by decide +kernel
theorem d_Row_copy_9 : decode b_Row_copy 9 = .ok (.istore_n 2, 1) := by decide +kernel
theorem d_Row_copy_10 : decode b_Row_copy 10 = .ok (.iload_n 2, 1) := by decide +kernel
theorem d_Row_copy_11 : decode b_Row_copy 11 = .ok (.aload_n 0, 1) := by decide +kernel
theorem d_Row_copy_12 : decode b_Row_copy 12 = .ok (.getfield 15, 3) := by decide +kernel
theorem d_Row_copy_15 : decode b_Row_copy 15 = .ok (.if_icmp .ge 21, 3) := by decide +kernel
theorem d_Row_copy_18 : decode b_Row_copy 18 = .ok (.aload_n 0, 1) := by decide +kernel
theorem d_Row_copy_19 : decode b_Row_copy 19 = .ok (.getfield 9, 3) := by decide +kernel
theorem d_Row_copy_22 : decode b_Row_copy 22 = .ok (.iload_n 2, 1) := by decide +kernel
theorem d_Row_copy_23 : decode b_Row_copy 23 = .ok (.aload_n 1, 1) := by decide +kernel
theorem d_Row_copy_24 : decode b_Row_copy 24 = .ok (.getfield 9, 3) := by decide +kernel
theorem d_Row_copy_27 : decode b_Row_copy 27 = .ok (.iload_n 2, 1) := by decide +kernel
theorem d_Row_copy_28 : decode b_Row_copy 28 = .ok (.iaload, 1) := by decide +kernel
theorem d_Row_copy_29 : decode b_Row_copy 29 = .ok (.iastore, 1) := by decide +kernel
theorem d_Row_copy_30 : decode b_Row_copy 30 = .ok (.iinc 2 1, 3) := by decide +kernel
theorem d_Row_copy_33 : decode b_Row_copy 33 = .ok (.goto (-23), 3) := by decide +kernel
theorem d_Row_copy_36 : decode b_Row_copy 36 = .ok (.return_, 1) := by decide +kernel
