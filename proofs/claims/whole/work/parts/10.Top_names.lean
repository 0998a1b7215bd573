abbrev b_Top_init : ByteArray := prog_1_method_1_code
def y_Top_init : MethodName := ⟨"SyntaxTrees", "<init>", "()V"⟩
def w_Top_init : List Cond := .code y_Top_init b_Top_init 1 none :: TBL
theorem hd_Top_init : y_Top_init.cls = "SyntaxTrees" ∧ y_Top_init.cls ≠ "java/lang/invoke/MethodHandle" ∧ y_Top_init.cls ≠ "java/lang/invoke/VarHandle" ∧ (parseMethodDescriptor y_Top_init.desc).map (fun d => d.parameters.length) = some 0 := by decide +kernel
theorem d_Top_init_0 : decode b_Top_init 0 = .ok (.aload_n 0, 1) := by decide +kernel
theorem d_Top_init_1 : decode b_Top_init 1 = .ok (.invokespecial 3, 3) := by decide +kernel
theorem d_Top_init_4 : decode b_Top_init 4 = .ok (.aload_n 0, 1) := by decide +kernel
theorem d_Top_init_5 : decode b_Top_init 5 = .ok (.new 9, 3) := by decide +kernel
theorem d_Top_init_8 : decode b_Top_init 8 = .ok (.dup, 1) := by decide +kernel
theorem d_Top_init_9 : decode b_Top_init 9 = .ok (.invokespecial 11, 3) := by decide +kernel
theorem d_Top_init_12 : decode b_Top_init 12 = .ok (.putfield 12, 3) := by decide +kernel
theorem d_Top_init_15 : decode b_Top_init 15 = .ok (.aload_n 0, 1) := by decide +kernel
theorem d_Top_init_16 : decode b_Top_init 16 = .ok (.new 16, 3) := by decide +kernel
theorem d_Top_init_19 : decode b_Top_init 19 = .ok (.dup, 1) := by decide +kernel
theorem d_Top_init_20 : decode b_Top_init 20 = .ok (.aload_n 0, 1) := by decide +kernel
theorem d_Top_init_21 : decode b_Top_init 21 = .ok (.getfield 12, 3) := by decide +kernel
theorem d_Top_init_24 : decode b_Top_init 24 = .ok (.invokespecial 18, 3) := by decide +kernel
theorem d_Top_init_27 : decode b_Top_init 27 = .ok (.putfield 21, 3) := by decide +kernel
theorem d_Top_init_30 : decode b_Top_init 30 = .ok (.aload_n 0, 1) := by decide +kernel
theorem d_Top_init_31 : decode b_Top_init 31 = .ok (.new 25, 3) := by decide +kernel
theorem d_Top_init_34 : decode b_Top_init 34 = .ok (.dup, 1) := by decide +kernel
theorem d_Top_init_35 : decode b_Top_init 35 = .ok (.invokespecial 27, 3) := by decide +kernel
theorem d_Top_init_38 : decode b_Top_init 38 = .ok (.putfield 28, 3) := by decide +kernel
theorem d_Top_init_41 : decode b_Top_init 41 = .ok (.aload_n 0, 1) := by decide +kernel
theorem d_Top_init_42 : decode b_Top_init 42 = .ok (.new 32, 3) := by decide +kernel
theorem d_Top_init_45 : decode b_Top_init 45 = .ok (.dup, 1) := by decide +kernel
theorem d_Top_init_46 : decode b_Top_init 46 = .ok (.aload_n 0, 1) := by decide +kernel
theorem d_Top_init_47 : decode b_Top_init 47 = .ok (.getfield 12, 3) := by decide +kernel
theorem d_Top_init_50 : decode b_Top_init 50 = .ok (.aload_n 0, 1) := by decide +kernel
theorem d_Top_init_51 : decode b_Top_init 51 = .ok (.getfield 21, 3) := by decide +kernel
theorem d_Top_init_54 : decode b_Top_init 54 = .ok (.aload_n 0, 1) := by decide +kernel
theorem d_Top_init_55 : decode b_Top_init 55 = .ok (.getfield 28, 3) := by decide +kernel
theorem d_Top_init_58 : decode b_Top_init 58 = .ok (.invokespecial 34, 3) := by decide +kernel
theorem d_Top_init_61 : decode b_Top_init 61 = .ok (.putfield 37, 3) := by decide +kernel
theorem d_Top_init_64 : decode b_Top_init 64 = .ok (.aload_n 0, 1) := by decide +kernel
theorem d_Top_init_65 : decode b_Top_init 65 = .ok (.new 41, 3) := by decide +kernel
theorem d_Top_init_68 : decode b_Top_init 68 = .ok (.dup, 1) := by decide +kernel
theorem d_Top_init_69 : decode b_Top_init 69 = .ok (.aload_n 0, 1) := by decide +kernel
theorem d_Top_init_70 : decode b_Top_init 70 = .ok (.getfield 12, 3) := by decide +kernel
theorem d_Top_init_73 : decode b_Top_init 73 = .ok (.aload_n 0, 1) := by decide +kernel
theorem d_Top_init_74 : decode b_Top_init 74 = .ok (.getfield 21, 3) := by decide +kernel
theorem d_Top_init_77 : decode b_Top_init 77 = .ok (.aload_n 0, 1) := by decide +kernel
theorem d_Top_init_78 : decode b_Top_init 78 = .ok (.getfield 37, 3) := by decide +kernel
theorem d_Top_init_81 : decode b_Top_init 81 = .ok (.invokespecial 43, 3) := by decide +kernel
theorem d_Top_init_84 : decode b_Top_init 84 = .ok (.putfield 46, 3) := by decide +kernel
theorem d_Top_init_87 : decode b_Top_init 87 = .ok (.return_, 1) := by decide +kernel
abbrev b_Top_symbol : ByteArray := prog_1_method_2_code
def y_Top_symbol : MethodName := ⟨"SyntaxTrees", "symbol", "(I)I"⟩
def w_Top_symbol : List Cond := .code y_Top_symbol b_Top_symbol 2 (some .int) :: TBL
theorem hd_Top_symbol : y_Top_symbol.cls = "SyntaxTrees" ∧ y_Top_symbol.cls ≠ "java/lang/invoke/MethodHandle" ∧ y_Top_symbol.cls ≠ "java/lang/invoke/VarHandle" ∧ (parseMethodDescriptor y_Top_symbol.desc).map (fun d => d.parameters.length) = some 1 := by decide +kernel
theorem d_Top_symbol_0 : decode b_Top_symbol 0 = .ok (.iload_n 1, 1) := by decide +kernel
theorem d_Top_symbol_1 : decode b_Top_symbol 1 = .ok (.iconst (-1), 1) := by decide +kernel
theorem d_Top_symbol_2 : decode b_Top_symbol 2 = .ok (.if_icmp .ne 13, 3) := by decide +kernel
theorem d_Top_symbol_5 : decode b_Top_symbol 5 = .ok (.aload_n 0, 1) := by decide +kernel
theorem d_Top_symbol_6 : decode b_Top_symbol 6 = .ok (.getfield 12, 3) := by decide +kernel
theorem d_Top_symbol_9 : decode b_Top_symbol 9 = .ok (.invokevirtual 50, 3) := by decide +kernel
theorem d_Top_symbol_12 : decode b_Top_symbol 12 = .ok (.goto 11, 3) := by decide +kernel
theorem d_Top_symbol_15 : decode b_Top_symbol 15 = .ok (.aload_n 0, 1) := by decide +kernel
theorem d_Top_symbol_16 : decode b_Top_symbol 16 = .ok (.getfield 12, 3) := by decide +kernel
theorem d_Top_symbol_19 : decode b_Top_symbol 19 = .ok (.iload_n 1, 1) := by decide +kernel
theorem d_Top_symbol_20 : decode b_Top_symbol 20 = .ok (.invokevirtual 54, 3) := by decide +kernel
theorem d_Top_symbol_23 : decode b_Top_symbol 23 = .ok (.ireturn, 1) := by decide +kernel
abbrev b_Top_begin : ByteArray := prog_1_method_3_code
def y_Top_begin : MethodName := ⟨"SyntaxTrees", "begin", "(I)I"⟩
def w_Top_begin : List Cond := .code y_Top_begin b_Top_begin 2 (some .int) :: TBL
theorem hd_Top_begin : y_Top_begin.cls = "SyntaxTrees" ∧ y_Top_begin.cls ≠ "java/lang/invoke/MethodHandle" ∧ y_Top_begin.cls ≠ "java/lang/invoke/VarHandle" ∧ (parseMethodDescriptor y_Top_begin.desc).map (fun d => d.parameters.length) = some 1 := by decide +kernel
theorem d_Top_begin_0 : decode b_Top_begin 0 = .ok (.aload_n 0, 1) := by decide +kernel
theorem d_Top_begin_1 : decode b_Top_begin 1 = .ok (.getfield 21, 3) := by decide +kernel
theorem d_Top_begin_4 : decode b_Top_begin 4 = .ok (.iload_n 1, 1) := by decide +kernel
theorem d_Top_begin_5 : decode b_Top_begin 5 = .ok (.invokevirtual 58, 3) := by decide +kernel
theorem d_Top_begin_8 : decode b_Top_begin 8 = .ok (.ireturn, 1) := by decide +kernel
abbrev b_Top_put : ByteArray := prog_1_method_4_code
def y_Top_put : MethodName := ⟨"SyntaxTrees", "put", "(I)I"⟩
def w_Top_put : List Cond := .code y_Top_put b_Top_put 2 (some .int) :: TBL
theorem hd_Top_put : y_Top_put.cls = "SyntaxTrees" ∧ y_Top_put.cls ≠ "java/lang/invoke/MethodHandle" ∧ y_Top_put.cls ≠ "java/lang/invoke/VarHandle" ∧ (parseMethodDescriptor y_Top_put.desc).map (fun d => d.parameters.length) = some 1 := by decide +kernel
theorem d_Top_put_0 : decode b_Top_put 0 = .ok (.aload_n 0, 1) := by decide +kernel
theorem d_Top_put_1 : decode b_Top_put 1 = .ok (.getfield 21, 3) := by decide +kernel
theorem d_Top_put_4 : decode b_Top_put 4 = .ok (.iload_n 1, 1) := by decide +kernel
theorem d_Top_put_5 : decode b_Top_put 5 = .ok (.invokevirtual 61, 3) := by decide +kernel
theorem d_Top_put_8 : decode b_Top_put 8 = .ok (.ireturn, 1) := by decide +kernel
abbrev b_Top_close : ByteArray := prog_1_method_5_code
def y_Top_close : MethodName := ⟨"SyntaxTrees", "close", "()I"⟩
def w_Top_close : List Cond := .code y_Top_close b_Top_close 1 (some .int) :: TBL
theorem hd_Top_close : y_Top_close.cls = "SyntaxTrees" ∧ y_Top_close.cls ≠ "java/lang/invoke/MethodHandle" ∧ y_Top_close.cls ≠ "java/lang/invoke/VarHandle" ∧ (parseMethodDescriptor y_Top_close.desc).map (fun d => d.parameters.length) = some 0 := by decide +kernel
theorem d_Top_close_0 : decode b_Top_close 0 = .ok (.aload_n 0, 1) := by decide +kernel
theorem d_Top_close_1 : decode b_Top_close 1 = .ok (.getfield 21, 3) := by decide +kernel
theorem d_Top_close_4 : decode b_Top_close 4 = .ok (.invokevirtual 64, 3) := by decide +kernel
theorem d_Top_close_7 : decode b_Top_close 7 = .ok (.ifCond .eq 7, 3) := by decide +kernel
theorem d_Top_close_10 : decode b_Top_close 10 = .ok (.iconst 1, 1) := by decide +kernel
theorem d_Top_close_11 : decode b_Top_close 11 = .ok (.goto 4, 3) := by decide +kernel
theorem d_Top_close_14 : decode b_Top_close 14 = .ok (.iconst 0, 1) := by decide +kernel
theorem d_Top_close_15 : decode b_Top_close 15 = .ok (.ireturn, 1) := by decide +kernel
abbrev b_Top_add : ByteArray := prog_1_method_6_code
def y_Top_add : MethodName := ⟨"SyntaxTrees", "add", "(I)I"⟩
def w_Top_add : List Cond := .code y_Top_add b_Top_add 2 (some .int) :: TBL
theorem hd_Top_add : y_Top_add.cls = "SyntaxTrees" ∧ y_Top_add.cls ≠ "java/lang/invoke/MethodHandle" ∧ y_Top_add.cls ≠ "java/lang/invoke/VarHandle" ∧ (parseMethodDescriptor y_Top_add.desc).map (fun d => d.parameters.length) = some 1 := by decide +kernel
theorem d_Top_add_0 : decode b_Top_add 0 = .ok (.aload_n 0, 1) := by decide +kernel
theorem d_Top_add_1 : decode b_Top_add 1 = .ok (.getfield 12, 3) := by decide +kernel
theorem d_Top_add_4 : decode b_Top_add 4 = .ok (.iload_n 1, 1) := by decide +kernel
theorem d_Top_add_5 : decode b_Top_add 5 = .ok (.invokevirtual 68, 3) := by decide +kernel
theorem d_Top_add_8 : decode b_Top_add 8 = .ok (.ifCond .eq 14, 3) := by decide +kernel
theorem d_Top_add_11 : decode b_Top_add 11 = .ok (.aload_n 0, 1) := by decide +kernel
theorem d_Top_add_12 : decode b_Top_add 12 = .ok (.getfield 28, 3) := by decide +kernel
theorem d_Top_add_15 : decode b_Top_add 15 = .ok (.iload_n 1, 1) := by decide +kernel
theorem d_Top_add_16 : decode b_Top_add 16 = .ok (.invokevirtual 72, 3) := by decide +kernel
theorem d_Top_add_19 : decode b_Top_add 19 = .ok (.goto 4, 3) := by decide +kernel
theorem d_Top_add_22 : decode b_Top_add 22 = .ok (.iconst (-1), 1) := by decide +kernel
theorem d_Top_add_23 : decode b_Top_add 23 = .ok (.ireturn, 1) := by decide +kernel
abbrev b_Top_empty : ByteArray := prog_1_method_7_code
def y_Top_empty : MethodName := ⟨"SyntaxTrees", "empty", "()I"⟩
def w_Top_empty : List Cond := .code y_Top_empty b_Top_empty 1 (some .int) :: TBL
theorem hd_Top_empty : y_Top_empty.cls = "SyntaxTrees" ∧ y_Top_empty.cls ≠ "java/lang/invoke/MethodHandle" ∧ y_Top_empty.cls ≠ "java/lang/invoke/VarHandle" ∧ (parseMethodDescriptor y_Top_empty.desc).map (fun d => d.parameters.length) = some 0 := by decide +kernel
theorem d_Top_empty_0 : decode b_Top_empty 0 = .ok (.aload_n 0, 1) := by decide +kernel
theorem d_Top_empty_1 : decode b_Top_empty 1 = .ok (.getfield 28, 3) := by decide +kernel
theorem d_Top_empty_4 : decode b_Top_empty 4 = .ok (.invokevirtual 73, 3) := by decide +kernel
theorem d_Top_empty_7 : decode b_Top_empty 7 = .ok (.ireturn, 1) := by decide +kernel
abbrev b_Top_trees : ByteArray := prog_1_method_8_code
def y_Top_trees : MethodName := ⟨"SyntaxTrees", "trees", "(II)I"⟩
def w_Top_trees : List Cond := .code y_Top_trees b_Top_trees 3 (some .int) :: TBL
theorem hd_Top_trees : y_Top_trees.cls = "SyntaxTrees" ∧ y_Top_trees.cls ≠ "java/lang/invoke/MethodHandle" ∧ y_Top_trees.cls ≠ "java/lang/invoke/VarHandle" ∧ (parseMethodDescriptor y_Top_trees.desc).map (fun d => d.parameters.length) = some 2 := by decide +kernel
theorem d_Top_trees_0 : decode b_Top_trees 0 = .ok (.aload_n 0, 1) := by decide +kernel
theorem d_Top_trees_1 : decode b_Top_trees 1 = .ok (.getfield 12, 3) := by decide +kernel
theorem d_Top_trees_4 : decode b_Top_trees 4 = .ok (.iload_n 1, 1) := by decide +kernel
theorem d_Top_trees_5 : decode b_Top_trees 5 = .ok (.invokevirtual 76, 3) := by decide +kernel
theorem d_Top_trees_8 : decode b_Top_trees 8 = .ok (.ifCond .ne 5, 3) := by decide +kernel
theorem d_Top_trees_11 : decode b_Top_trees 11 = .ok (.iconst (-1), 1) := by decide +kernel
theorem d_Top_trees_12 : decode b_Top_trees 12 = .ok (.ireturn, 1) := by decide +kernel
theorem d_Top_trees_13 : decode b_Top_trees 13 = .ok (.aload_n 0, 1) := by decide +kernel
theorem d_Top_trees_14 : decode b_Top_trees 14 = .ok (.getfield 37, 3) := by decide +kernel
theorem d_Top_trees_17 : decode b_Top_trees 17 = .ok (.iload_n 1, 1) := by decide +kernel
theorem d_Top_trees_18 : decode b_Top_trees 18 = .ok (.aload_n 0, 1) := by decide +kernel
theorem d_Top_trees_19 : decode b_Top_trees 19 = .ok (.getfield 21, 3) := by decide +kernel
theorem d_Top_trees_22 : decode b_Top_trees 22 = .ok (.iload_n 2, 1) := by decide +kernel
theorem d_Top_trees_23 : decode b_Top_trees 23 = .ok (.invokevirtual 79, 3) := by decide +kernel
theorem d_Top_trees_26 : decode b_Top_trees 26 = .ok (.iconst 0, 1) := by decide +kernel
theorem d_Top_trees_27 : decode b_Top_trees 27 = .ok (.aload_n 0, 1) := by decide +kernel
theorem d_Top_trees_28 : decode b_Top_trees 28 = .ok (.getfield 28, 3) := by decide +kernel
theorem d_Top_trees_31 : decode b_Top_trees 31 = .ok (.invokevirtual 82, 3) := by decide +kernel
theorem d_Top_trees_34 : decode b_Top_trees 34 = .ok (.invokevirtual 85, 3) := by decide +kernel
theorem d_Top_trees_37 : decode b_Top_trees 37 = .ok (.ireturn, 1) := by decide +kernel
abbrev b_Top_part : ByteArray := prog_1_method_9_code
def y_Top_part : MethodName := ⟨"SyntaxTrees", "part", "(IIII)I"⟩
def w_Top_part : List Cond := .code y_Top_part b_Top_part 5 (some .int) :: TBL
theorem hd_Top_part : y_Top_part.cls = "SyntaxTrees" ∧ y_Top_part.cls ≠ "java/lang/invoke/MethodHandle" ∧ y_Top_part.cls ≠ "java/lang/invoke/VarHandle" ∧ (parseMethodDescriptor y_Top_part.desc).map (fun d => d.parameters.length) = some 4 := by decide +kernel
theorem d_Top_part_0 : decode b_Top_part 0 = .ok (.aload_n 0, 1) := by decide +kernel
theorem d_Top_part_1 : decode b_Top_part 1 = .ok (.getfield 12, 3) := by decide +kernel
theorem d_Top_part_4 : decode b_Top_part 4 = .ok (.iload_n 1, 1) := by decide +kernel
theorem d_Top_part_5 : decode b_Top_part 5 = .ok (.invokevirtual 76, 3) := by decide +kernel
theorem d_Top_part_8 : decode b_Top_part 8 = .ok (.ifCond .eq 25, 3) := by decide +kernel
theorem d_Top_part_11 : decode b_Top_part 11 = .ok (.iload_n 3, 1) := by decide +kernel
theorem d_Top_part_12 : decode b_Top_part 12 = .ok (.ifCond .lt 21, 3) := by decide +kernel
theorem d_Top_part_15 : decode b_Top_part 15 = .ok (.iload_n 3, 1) := by decide +kernel
theorem d_Top_part_16 : decode b_Top_part 16 = .ok (.iload 4, 2) := by decide +kernel
theorem d_Top_part_18 : decode b_Top_part 18 = .ok (.if_icmp .ge 15, 3) := by decide +kernel
theorem d_Top_part_21 : decode b_Top_part 21 = .ok (.iload 4, 2) := by decide +kernel
theorem d_Top_part_23 : decode b_Top_part 23 = .ok (.aload_n 0, 1) := by decide +kernel
theorem d_Top_part_24 : decode b_Top_part 24 = .ok (.getfield 28, 3) := by decide +kernel
theorem d_Top_part_27 : decode b_Top_part 27 = .ok (.invokevirtual 82, 3) := by decide +kernel
theorem d_Top_part_30 : decode b_Top_part 30 = .ok (.if_icmp .le 5, 3) := by decide +kernel
theorem d_Top_part_33 : decode b_Top_part 33 = .ok (.iconst (-1), 1) := by decide +kernel
theorem d_Top_part_34 : decode b_Top_part 34 = .ok (.ireturn, 1) := by decide +kernel
theorem d_Top_part_35 : decode b_Top_part 35 = .ok (.aload_n 0, 1) := by decide +kernel
theorem d_Top_part_36 : decode b_Top_part 36 = .ok (.getfield 37, 3) := by decide +kernel
theorem d_Top_part_39 : decode b_Top_part 39 = .ok (.iload_n 1, 1) := by decide +kernel
theorem d_Top_part_40 : decode b_Top_part 40 = .ok (.aload_n 0, 1) := by decide +kernel
theorem d_Top_part_41 : decode b_Top_part 41 = .ok (.getfield 21, 3) := by decide +kernel
theorem d_Top_part_44 : decode b_Top_part 44 = .ok (.iload_n 2, 1) := by decide +kernel
theorem d_Top_part_45 : decode b_Top_part 45 = .ok (.invokevirtual 79, 3) := by decide +kernel
theorem d_Top_part_48 : decode b_Top_part 48 = .ok (.iload_n 3, 1) := by decide +kernel
theorem d_Top_part_49 : decode b_Top_part 49 = .ok (.iload 4, 2) := by decide +kernel
theorem d_Top_part_51 : decode b_Top_part 51 = .ok (.invokevirtual 85, 3) := by decide +kernel
theorem d_Top_part_54 : decode b_Top_part 54 = .ok (.ireturn, 1) := by decide +kernel
abbrev b_Top_make : ByteArray := prog_1_method_10_code
def y_Top_make : MethodName := ⟨"SyntaxTrees", "make", "(II)I"⟩
def w_Top_make : List Cond := .code y_Top_make b_Top_make 4 (some .int) :: TBL
theorem hd_Top_make : y_Top_make.cls = "SyntaxTrees" ∧ y_Top_make.cls ≠ "java/lang/invoke/MethodHandle" ∧ y_Top_make.cls ≠ "java/lang/invoke/VarHandle" ∧ (parseMethodDescriptor y_Top_make.desc).map (fun d => d.parameters.length) = some 2 := by decide +kernel
theorem d_Top_make_0 : decode b_Top_make 0 = .ok (.aload_n 0, 1) := by decide +kernel
theorem d_Top_make_1 : decode b_Top_make 1 = .ok (.getfield 21, 3) := by decide +kernel
theorem d_Top_make_4 : decode b_Top_make 4 = .ok (.iload_n 2, 1) := by decide +kernel
theorem d_Top_make_5 : decode b_Top_make 5 = .ok (.invokevirtual 79, 3) := by decide +kernel
theorem d_Top_make_8 : decode b_Top_make 8 = .ok (.istore_n 3, 1) := by decide +kernel
theorem d_Top_make_9 : decode b_Top_make 9 = .ok (.aload_n 0, 1) := by decide +kernel
theorem d_Top_make_10 : decode b_Top_make 10 = .ok (.getfield 12, 3) := by decide +kernel
theorem d_Top_make_13 : decode b_Top_make 13 = .ok (.iload_n 1, 1) := by decide +kernel
theorem d_Top_make_14 : decode b_Top_make 14 = .ok (.invokevirtual 76, 3) := by decide +kernel
theorem d_Top_make_17 : decode b_Top_make 17 = .ok (.ifCond .eq 24, 3) := by decide +kernel
theorem d_Top_make_20 : decode b_Top_make 20 = .ok (.aload_n 0, 1) := by decide +kernel
theorem d_Top_make_21 : decode b_Top_make 21 = .ok (.getfield 37, 3) := by decide +kernel
theorem d_Top_make_24 : decode b_Top_make 24 = .ok (.iload_n 1, 1) := by decide +kernel
theorem d_Top_make_25 : decode b_Top_make 25 = .ok (.iload_n 3, 1) := by decide +kernel
theorem d_Top_make_26 : decode b_Top_make 26 = .ok (.iconst 0, 1) := by decide +kernel
theorem d_Top_make_27 : decode b_Top_make 27 = .ok (.aload_n 0, 1) := by decide +kernel
theorem d_Top_make_28 : decode b_Top_make 28 = .ok (.getfield 28, 3) := by decide +kernel
theorem d_Top_make_31 : decode b_Top_make 31 = .ok (.invokevirtual 82, 3) := by decide +kernel
theorem d_Top_make_34 : decode b_Top_make 34 = .ok (.invokevirtual 85, 3) := by decide +kernel
theorem d_Top_make_37 : decode b_Top_make 37 = .ok (.iconst 1, 1) := by decide +kernel
theorem d_Top_make_38 : decode b_Top_make 38 = .ok (.if_icmp .eq 5, 3) := by decide +kernel
theorem d_Top_make_41 : decode b_Top_make 41 = .ok (.iconst (-1), 1) := by decide +kernel
theorem d_Top_make_42 : decode b_Top_make 42 = .ok (.ireturn, 1) := by decide +kernel
theorem d_Top_make_43 : decode b_Top_make 43 = .ok (.aload_n 0, 1) := by decide +kernel
theorem d_Top_make_44 : decode b_Top_make 44 = .ok (.getfield 46, 3) := by decide +kernel
theorem d_Top_make_47 : decode b_Top_make 47 = .ok (.aload_n 0, 1) := by decide +kernel
theorem d_Top_make_48 : decode b_Top_make 48 = .ok (.getfield 28, 3) := by decide +kernel
theorem d_Top_make_51 : decode b_Top_make 51 = .ok (.iload_n 1, 1) := by decide +kernel
theorem d_Top_make_52 : decode b_Top_make 52 = .ok (.iload_n 3, 1) := by decide +kernel
theorem d_Top_make_53 : decode b_Top_make 53 = .ok (.invokevirtual 89, 3) := by decide +kernel
theorem d_Top_make_56 : decode b_Top_make 56 = .ok (.ireturn, 1) := by decide +kernel
abbrev b_Top_node : ByteArray := prog_1_method_11_code
def y_Top_node : MethodName := ⟨"SyntaxTrees", "node", "(II)I"⟩
def w_Top_node : List Cond := .code y_Top_node b_Top_node 3 (some .int) :: TBL
theorem hd_Top_node : y_Top_node.cls = "SyntaxTrees" ∧ y_Top_node.cls ≠ "java/lang/invoke/MethodHandle" ∧ y_Top_node.cls ≠ "java/lang/invoke/VarHandle" ∧ (parseMethodDescriptor y_Top_node.desc).map (fun d => d.parameters.length) = some 2 := by decide +kernel
theorem d_Top_node_0 : decode b_Top_node 0 = .ok (.aload_n 0, 1) := by decide +kernel
theorem d_Top_node_1 : decode b_Top_node 1 = .ok (.getfield 46, 3) := by decide +kernel
theorem d_Top_node_4 : decode b_Top_node 4 = .ok (.iload_n 1, 1) := by decide +kernel
theorem d_Top_node_5 : decode b_Top_node 5 = .ok (.iload_n 2, 1) := by decide +kernel
theorem d_Top_node_6 : decode b_Top_node 6 = .ok (.invokevirtual 93, 3) := by decide +kernel
theorem d_Top_node_9 : decode b_Top_node 9 = .ok (.ireturn, 1) := by decide +kernel
abbrev b_Top_told : ByteArray := prog_1_method_12_code
def y_Top_told : MethodName := ⟨"SyntaxTrees", "told", "(I)I"⟩
def w_Top_told : List Cond := .code y_Top_told b_Top_told 2 (some .int) :: TBL
theorem hd_Top_told : y_Top_told.cls = "SyntaxTrees" ∧ y_Top_told.cls ≠ "java/lang/invoke/MethodHandle" ∧ y_Top_told.cls ≠ "java/lang/invoke/VarHandle" ∧ (parseMethodDescriptor y_Top_told.desc).map (fun d => d.parameters.length) = some 1 := by decide +kernel
theorem d_Top_told_0 : decode b_Top_told 0 = .ok (.aload_n 0, 1) := by decide +kernel
theorem d_Top_told_1 : decode b_Top_told 1 = .ok (.getfield 46, 3) := by decide +kernel
theorem d_Top_told_4 : decode b_Top_told 4 = .ok (.iload_n 1, 1) := by decide +kernel
theorem d_Top_told_5 : decode b_Top_told 5 = .ok (.invokevirtual 97, 3) := by decide +kernel
theorem d_Top_told_8 : decode b_Top_told 8 = .ok (.ireturn, 1) := by decide +kernel
abbrev b_Top_count : ByteArray := prog_1_method_13_code
def y_Top_count : MethodName := ⟨"SyntaxTrees", "count", "(I)I"⟩
def w_Top_count : List Cond := .code y_Top_count b_Top_count 2 (some .int) :: TBL
theorem hd_Top_count : y_Top_count.cls = "SyntaxTrees" ∧ y_Top_count.cls ≠ "java/lang/invoke/MethodHandle" ∧ y_Top_count.cls ≠ "java/lang/invoke/VarHandle" ∧ (parseMethodDescriptor y_Top_count.desc).map (fun d => d.parameters.length) = some 1 := by decide +kernel
theorem d_Top_count_0 : decode b_Top_count 0 = .ok (.iload_n 1, 1) := by decide +kernel
theorem d_Top_count_1 : decode b_Top_count 1 = .ok (.tableswitch 87 0 5 #[39, 47, 55, 63, 71, 79], 39) := by decide +kernel
theorem d_Top_count_40 : decode b_Top_count 40 = .ok (.aload_n 0, 1) := by decide +kernel
theorem d_Top_count_41 : decode b_Top_count 41 = .ok (.getfield 12, 3) := by decide +kernel
theorem d_Top_count_44 : decode b_Top_count 44 = .ok (.invokevirtual 100, 3) := by decide +kernel
theorem d_Top_count_47 : decode b_Top_count 47 = .ok (.ireturn, 1) := by decide +kernel
theorem d_Top_count_48 : decode b_Top_count 48 = .ok (.aload_n 0, 1) := by decide +kernel
theorem d_Top_count_49 : decode b_Top_count 49 = .ok (.getfield 12, 3) := by decide +kernel
theorem d_Top_count_52 : decode b_Top_count 52 = .ok (.invokevirtual 103, 3) := by decide +kernel
theorem d_Top_count_55 : decode b_Top_count 55 = .ok (.ireturn, 1) := by decide +kernel
theorem d_Top_count_56 : decode b_Top_count 56 = .ok (.aload_n 0, 1) := by decide +kernel
theorem d_Top_count_57 : decode b_Top_count 57 = .ok (.getfield 21, 3) := by decide +kernel
theorem d_Top_count_60 : decode b_Top_count 60 = .ok (.invokevirtual 106, 3) := by decide +kernel
theorem d_Top_count_63 : decode b_Top_count 63 = .ok (.ireturn, 1) := by decide +kernel
theorem d_Top_count_64 : decode b_Top_count 64 = .ok (.aload_n 0, 1) := by decide +kernel
theorem d_Top_count_65 : decode b_Top_count 65 = .ok (.getfield 21, 3) := by decide +kernel
theorem d_Top_count_68 : decode b_Top_count 68 = .ok (.invokevirtual 109, 3) := by decide +kernel
theorem d_Top_count_71 : decode b_Top_count 71 = .ok (.ireturn, 1) := by decide +kernel
theorem d_Top_count_72 : decode b_Top_count 72 = .ok (.aload_n 0, 1) := by decide +kernel
theorem d_Top_count_73 : decode b_Top_count 73 = .ok (.getfield 28, 3) := by decide +kernel
theorem d_Top_count_76 : decode b_Top_count 76 = .ok (.invokevirtual 82, 3) := by decide +kernel
theorem d_Top_count_79 : decode b_Top_count 79 = .ok (.ireturn, 1) := by decide +kernel
theorem d_Top_count_80 : decode b_Top_count 80 = .ok (.aload_n 0, 1) := by decide +kernel
theorem d_Top_count_81 : decode b_Top_count 81 = .ok (.getfield 46, 3) := by decide +kernel
theorem d_Top_count_84 : decode b_Top_count 84 = .ok (.invokevirtual 112, 3) := by decide +kernel
theorem d_Top_count_87 : decode b_Top_count 87 = .ok (.ireturn, 1) := by decide +kernel
theorem d_Top_count_88 : decode b_Top_count 88 = .ok (.iconst (-1), 1) := by decide +kernel
theorem d_Top_count_89 : decode b_Top_count 89 = .ok (.ireturn, 1) := by decide +kernel
abbrev b_Top_check : ByteArray := prog_1_method_14_code
def y_Top_check : MethodName := ⟨"SyntaxTrees", "check", "()I"⟩
def w_Top_check : List Cond := .code y_Top_check b_Top_check 1 (some .int) :: TBL
theorem hd_Top_check : y_Top_check.cls = "SyntaxTrees" ∧ y_Top_check.cls ≠ "java/lang/invoke/MethodHandle" ∧ y_Top_check.cls ≠ "java/lang/invoke/VarHandle" ∧ (parseMethodDescriptor y_Top_check.desc).map (fun d => d.parameters.length) = some 0 := by decide +kernel
theorem d_Top_check_0 : decode b_Top_check 0 = .ok (.aload_n 0, 1) := by decide +kernel
theorem d_Top_check_1 : decode b_Top_check 1 = .ok (.getfield 46, 3) := by decide +kernel
theorem d_Top_check_4 : decode b_Top_check 4 = .ok (.invokevirtual 113, 3) := by decide +kernel
theorem d_Top_check_7 : decode b_Top_check 7 = .ok (.ifCond .eq 7, 3) := by decide +kernel
theorem d_Top_check_10 : decode b_Top_check 10 = .ok (.iconst 1, 1) := by decide +kernel
theorem d_Top_check_11 : decode b_Top_check 11 = .ok (.goto 4, 3) := by decide +kernel
theorem d_Top_check_14 : decode b_Top_check 14 = .ok (.iconst 0, 1) := by decide +kernel
theorem d_Top_check_15 : decode b_Top_check 15 = .ok (.ireturn, 1) := by decide +kernel
