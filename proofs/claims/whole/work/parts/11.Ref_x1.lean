set_option maxHeartbeats 4000000 in
set_option maxRecDepth 100000 in
theorem c_Ref_add (l : Launch) (dC : Nat → ClassId) (dI : Nat → Nat → Nat) (cI cJ cB : ClassId) (a_D a_D_types a_D_sortOf a_D_makes a_D_starts a_D_told a_D_row a_D_many a_D_ways a_D_base a_D_ruleOf a_D_sortAt a_D_from a_D_upTo a_D_firsts a_D_parts a_D_variables a_D_order a_D_pile a_D_next : Nat)  (D_symbols : Int32) (D_sorts : Int32) (D_rules : Int32) (D_isOpen : Int32) (D_all : Int32) (D_length : Int32) (D_isFound : Int32) (D_foundLimit : Int32) (D_nodes : Int32) (D_row : Nat → Int32) (p1 : Int32) (sz : Nat) (n : Nat) (o : Int32 × Int32 × Int32 × (Nat → Int32)) (hf : f_Ref_add n D_symbols D_length D_isFound D_row p1 = some o) : Met l y_Ref_add w_Ref_add ({ frames := 1, cells := 0, slots := 0, locals := 21 }) (va_Pc [.ref a_D, .int p1] (fun U => U.heap.size = sz ∧ va_P (dC, dI) vwCl [(a_D, .inr (6, [.int D_symbols, .ref a_D_types, .ref a_D_sortOf, .int D_sorts, .int D_rules, .int D_isOpen, .ref a_D_makes, .ref a_D_starts, .ref a_D_told, .int D_all, .ref a_D_row, .int D_length, .ref a_D_many, .ref a_D_ways, .ref a_D_base, .int D_isFound, .int D_foundLimit, .int D_nodes, .ref a_D_ruleOf, .ref a_D_sortAt, .ref a_D_from, .ref a_D_upTo, .ref a_D_firsts, .ref a_D_parts, .ref a_D_variables, .ref a_D_order, .ref a_D_pile, .ref a_D_next])), (a_D_row, .inl (cI, 59, .inl D_row))] U.heap ∧ x_K (dC, dI) [(cI, .int), (cJ, .long), (cB, .byte)] U ∧ va_D (fun _ => True) [(a_D, .inr (6, [.int D_symbols, .ref a_D_types, .ref a_D_sortOf, .int D_sorts, .int D_rules, .int D_isOpen, .ref a_D_makes, .ref a_D_starts, .ref a_D_told, .int D_all, .ref a_D_row, .int D_length, .ref a_D_many, .ref a_D_ways, .ref a_D_base, .int D_isFound, .int D_foundLimit, .int D_nodes, .ref a_D_ruleOf, .ref a_D_sortAt, .ref a_D_from, .ref a_D_upTo, .ref a_D_firsts, .ref a_D_parts, .ref a_D_variables, .ref a_D_order, .ref a_D_pile, .ref a_D_next])), (a_D_row, .inl (cI, 59, .inl D_row))])) (va_Qi (fun r (_ : Unit) => r = o.1) (fun _ t => va_P (dC, dI) vwCl [(a_D, .inr (6, [.int D_symbols, .ref a_D_types, .ref a_D_sortOf, .int D_sorts, .int D_rules, .int D_isOpen, .ref a_D_makes, .ref a_D_starts, .ref a_D_told, .int D_all, .ref a_D_row, .int o.2.1, .ref a_D_many, .ref a_D_ways, .ref a_D_base, .int o.2.2.1, .int D_foundLimit, .int D_nodes, .ref a_D_ruleOf, .ref a_D_sortAt, .ref a_D_from, .ref a_D_upTo, .ref a_D_firsts, .ref a_D_parts, .ref a_D_variables, .ref a_D_order, .ref a_D_pile, .ref a_D_next])), (a_D_row, .inl (cI, 59, .inl o.2.2.2))] t.heap ∧ va_D (va_A [(a_D, .inr (6, [.int D_symbols, .ref a_D_types, .ref a_D_sortOf, .int D_sorts, .int D_rules, .int D_isOpen, .ref a_D_makes, .ref a_D_starts, .ref a_D_told, .int D_all, .ref a_D_row, .int D_length, .ref a_D_many, .ref a_D_ways, .ref a_D_base, .int D_isFound, .int D_foundLimit, .int D_nodes, .ref a_D_ruleOf, .ref a_D_sortAt, .ref a_D_from, .ref a_D_upTo, .ref a_D_firsts, .ref a_D_parts, .ref a_D_variables, .ref a_D_order, .ref a_D_pile, .ref a_D_next])), (a_D_row, .inl (cI, 59, .inl D_row))] sz) [(a_D, .inr (6, [.int D_symbols, .ref a_D_types, .ref a_D_sortOf, .int D_sorts, .int D_rules, .int D_isOpen, .ref a_D_makes, .ref a_D_starts, .ref a_D_told, .int D_all, .ref a_D_row, .int o.2.1, .ref a_D_many, .ref a_D_ways, .ref a_D_base, .int o.2.2.1, .int D_foundLimit, .int D_nodes, .ref a_D_ruleOf, .ref a_D_sortAt, .ref a_D_from, .ref a_D_upTo, .ref a_D_firsts, .ref a_D_parts, .ref a_D_variables, .ref a_D_order, .ref a_D_pile, .ref a_D_next])), (a_D_row, .inl (cI, 59, .inl o.2.2.2))]) (va_A [(a_D, .inr (6, [.int D_symbols, .ref a_D_types, .ref a_D_sortOf, .int D_sorts, .int D_rules, .int D_isOpen, .ref a_D_makes, .ref a_D_starts, .ref a_D_told, .int D_all, .ref a_D_row, .int D_length, .ref a_D_many, .ref a_D_ways, .ref a_D_base, .int D_isFound, .int D_foundLimit, .int D_nodes, .ref a_D_ruleOf, .ref a_D_sortAt, .ref a_D_from, .ref a_D_upTo, .ref a_D_firsts, .ref a_D_parts, .ref a_D_variables, .ref a_D_order, .ref a_D_pile, .ref a_D_next])), (a_D_row, .inl (cI, 59, .inl D_row))] sz)) 0 0 (va_A [(a_D, .inr (6, [.int D_symbols, .ref a_D_types, .ref a_D_sortOf, .int D_sorts, .int D_rules, .int D_isOpen, .ref a_D_makes, .ref a_D_starts, .ref a_D_told, .int D_all, .ref a_D_row, .int D_length, .ref a_D_many, .ref a_D_ways, .ref a_D_base, .int D_isFound, .int D_foundLimit, .int D_nodes, .ref a_D_ruleOf, .ref a_D_sortAt, .ref a_D_from, .ref a_D_upTo, .ref a_D_firsts, .ref a_D_parts, .ref a_D_variables, .ref a_D_order, .ref a_D_pile, .ref a_D_next])), (a_D_row, .inl (cI, 59, .inl D_row))] sz) := by
  refine Met.ofW (cc := b_Ref_add) (maxL := 2) (ret := (some .int)) (by decide +kernel) rfl ?_
  intro p e s m args below meth c s₁ B hml hv
  obtain ⟨rfl, hsz, hP, hK, hD0⟩ := hv
  have hx := B.exec
  have hb := B.bytes
  have hr := B.returns
  have hts := atoms_spec (ws := w_Ref_add) B.pre
  have hown : s.vm.findClass "SyntaxTreesModel" = some m.cls := findClass_of_methodNamed B.named
  have hlocks := B.notSynchronized
  subst hsz
  have hD := hD0.self (sz := s.heap.size)
  generalize hAe : va_A [(a_D, .inr (6, [.int D_symbols, .ref a_D_types, .ref a_D_sortOf, .int D_sorts, .int D_rules, .int D_isOpen, .ref a_D_makes, .ref a_D_starts, .ref a_D_told, .int D_all, .ref a_D_row, .int D_length, .ref a_D_many, .ref a_D_ways, .ref a_D_base, .int D_isFound, .int D_foundLimit, .int D_nodes, .ref a_D_ruleOf, .ref a_D_sortAt, .ref a_D_from, .ref a_D_upTo, .ref a_D_firsts, .ref a_D_parts, .ref a_D_variables, .ref a_D_order, .ref a_D_pile, .ref a_D_next])), (a_D_row, .inl (cI, 59, .inl D_row))] s.heap.size = A at hD ⊢
  have hA : ∀ q : Nat, s.heap.size ≤ q → A q := fun q h => by rw [← hAe]; exact Or.inr h
  have hS : va_S A s.heap s.heap [] := va_S.rf
  have hP : va_P (dC, dI) vwCl [(a_D, .inr (6, [.int D_symbols, .ref a_D_types, .ref a_D_sortOf, .int D_sorts, .int D_rules, .int D_isOpen, .ref a_D_makes, .ref a_D_starts, .ref a_D_told, .int D_all, .ref a_D_row, .int D_length, .ref a_D_many, .ref a_D_ways, .ref a_D_base, .int D_isFound, .int D_foundLimit, .int D_nodes, .ref a_D_ruleOf, .ref a_D_sortAt, .ref a_D_from, .ref a_D_upTo, .ref a_D_firsts, .ref a_D_parts, .ref a_D_variables, .ref a_D_order, .ref a_D_pile, .ref a_D_next])), (a_D_row, .inl (cI, 59, .inl D_row))] s.heap := hP
  have hl := lv_entry ([.ref a_D, .int p1]) (n := 2) (Nat.le_of_ble_eq_true rfl)
  rw [lg_entry_eq]
  generalize (lg_sl ([.ref a_D, .int p1]) ++ List.replicate (2 - (lg_sl ([.ref a_D, .int p1])).length) Slot.unset).toArray = ls at hl ⊢
  have hl : lv_has ls 2 [(0, .ref a_D), (1, .int p1)] := hl
  refine x_Q (fun Q hQ => ?_)
  unfold f_Ref_add at hf
  refine lv_aload_n hx hb d_Ref_add_0 rfl (lv_at hl 0 rfl) ?_
  refine lv_iload_n hx hb d_Ref_add_1 rfl (lv_at hl 1 rfl) ?_
  obtain ⟨x1, hx1, hf⟩ := x_bd hf
  refine x_rdiV (As := [.int p1]) (rest := []) (wc := [(a_D, .inr (6, [.int D_symbols, .ref a_D_types, .ref a_D_sortOf, .int D_sorts, .int D_rules, .int D_isOpen, .ref a_D_makes, .ref a_D_starts, .ref a_D_told, .int D_all, .ref a_D_row, .int D_length, .ref a_D_many, .ref a_D_ways, .ref a_D_base, .int D_isFound, .int D_foundLimit, .int D_nodes, .ref a_D_ruleOf, .ref a_D_sortAt, .ref a_D_from, .ref a_D_upTo, .ref a_D_firsts, .ref a_D_parts, .ref a_D_variables, .ref a_D_order, .ref a_D_pile, .ref a_D_next]))]) ⟨hx, hb, hml, hown, hts⟩ (c_Ref_isSymbol l dC dI cI cJ cB a_D a_D_types a_D_sortOf a_D_makes a_D_starts a_D_told a_D_row a_D_many a_D_ways a_D_base a_D_ruleOf a_D_sortAt a_D_from a_D_upTo a_D_firsts a_D_parts a_D_variables a_D_order a_D_pile a_D_next D_symbols D_sorts D_rules D_isOpen D_all D_length D_isFound D_foundLimit D_nodes p1 n x1 hx1) (cwV 1 hts (x_gV m_574 m_575 m_29 m_48 m_576) rfl rfl rfl hd_Ref_isSymbol ⟨Nat.le_of_ble_eq_true rfl, Nat.le_of_ble_eq_true rfl⟩) hK hP [0] rfl (ci := 6) (q0 := 0) rfl rfl rfl rfl hl.1 rfl (Nat.le_of_ble_eq_true rfl) d_Ref_add_2 ⟨Nat.le_of_ble_eq_true rfl, Nat.le_of_ble_eq_true rfl⟩ ?_
  refine lv_if_eq (tgt := 17) hx hb d_Ref_add_5 (by decide +kernel) (fun c2 => ?_) (fun c2 => ?_)
  · have hf := x_pos c2 hf
    refine lv_iconst (v := (-1 : Int32)) hx hb d_Ref_add_17 (by decide +kernel) ?_
    cases hf
    subst hQ
    exact W.iret hx hb hr (fun t ht _ => ⟨⟨_, (), rfl, rfl, by rw [ht]; exact hP, hD⟩, hS.F ht⟩) hS.2.2 d_Ref_add_18
  · have hf := x_neg c2 hf
    refine lv_aload_n hx hb d_Ref_add_8 rfl (lv_at hl 0 rfl) ?_
    refine va_get (D := (dC, dI)) (ci := 6) (v := .int D_length) (C := "SyntaxTreesModel") (T := F_Ref) (N := 28) hx hb hts (fun w h => List.mem_cons_of_mem _ (in_Ref w h)) hown hK.1 hP 0 rfl rfl 11 (by decide +kernel) (hts _ (List.mem_cons_of_mem _ m_518)) (fun _ h9 => h9) rfl d_Ref_add_9 ?_
    refine lv_bipush (v := (59 : Int32)) hx hb d_Ref_add_12 (by decide +kernel) ?_
    refine lv_icmp_ne (tgt := 19) hx hb d_Ref_add_14 (by decide +kernel) (fun c3 => ?_) (fun c3 => ?_)
    · have hf := x_neg c3 hf
      refine lv_aload_n hx hb d_Ref_add_19 rfl (lv_at hl 0 rfl) ?_
      refine va_get (D := (dC, dI)) (ci := 6) (v := .ref a_D_row) (C := "SyntaxTreesModel") (T := F_Ref) (N := 28) hx hb hts (fun w h => List.mem_cons_of_mem _ (in_Ref w h)) hown hK.1 hP 0 rfl rfl 10 (by decide +kernel) (hts _ (List.mem_cons_of_mem _ m_517)) (fun _ h9 => h9) rfl d_Ref_add_20 ?_
      refine lv_aload_n hx hb d_Ref_add_23 rfl (lv_at hl 0 rfl) ?_
      refine va_get (D := (dC, dI)) (ci := 6) (v := .int D_length) (C := "SyntaxTreesModel") (T := F_Ref) (N := 28) hx hb hts (fun w h => List.mem_cons_of_mem _ (in_Ref w h)) hown hK.1 hP 0 rfl rfl 11 (by decide +kernel) (hts _ (List.mem_cons_of_mem _ m_518)) (fun _ h9 => h9) rfl d_Ref_add_24 ?_
      refine lv_iload_n hx hb d_Ref_add_27 rfl (lv_at hl 1 rfl) ?_
      obtain ⟨h4, hf⟩ := x_gd hf
      refine x_iast (w1 := [(a_D, .inr (6, [.int D_symbols, .ref a_D_types, .ref a_D_sortOf, .int D_sorts, .int D_rules, .int D_isOpen, .ref a_D_makes, .ref a_D_starts, .ref a_D_told, .int D_all, .ref a_D_row, .int D_length, .ref a_D_many, .ref a_D_ways, .ref a_D_base, .int D_isFound, .int D_foundLimit, .int D_nodes, .ref a_D_ruleOf, .ref a_D_sortAt, .ref a_D_from, .ref a_D_upTo, .ref a_D_firsts, .ref a_D_parts, .ref a_D_variables, .ref a_D_order, .ref a_D_pile, .ref a_D_next])), (a_D_row, .inl (cI, 59, .inl (upd D_row D_length.toNatClampNeg p1)))]) hx hb hK.1 hP hD hS 1 0 rfl rfl h4 d_Ref_add_28 rfl (fun H locs hP hD hS => ?_)
      refine lv_aload_n hx hb d_Ref_add_29 rfl (lv_at hl 0 rfl) ?_
      refine lv_dup hx hb d_Ref_add_30 rfl ?_
      refine va_get (D := (dC, dI)) (ci := 6) (v := .int D_length) (C := "SyntaxTreesModel") (T := F_Ref) (N := 28) hx hb hts (fun w h => List.mem_cons_of_mem _ (in_Ref w h)) hown hK.1 hP 0 rfl rfl 11 (by decide +kernel) (hts _ (List.mem_cons_of_mem _ m_518)) (fun _ h9 => h9) rfl d_Ref_add_31 ?_
      refine lv_iconst (v := (1 : Int32)) hx hb d_Ref_add_34 (by decide +kernel) ?_
      refine lv_iadd hx hb d_Ref_add_35 ?_
      refine x_put (D := (dC, dI)) (ci := 6) (v := .int (D_length + (1 : Int32))) (ty := .int) (C := "SyntaxTreesModel") (T := F_Ref) (N := 28) (w1 := [(a_D, .inr (6, [.int D_symbols, .ref a_D_types, .ref a_D_sortOf, .int D_sorts, .int D_rules, .int D_isOpen, .ref a_D_makes, .ref a_D_starts, .ref a_D_told, .int D_all, .ref a_D_row, .int (D_length + (1 : Int32)), .ref a_D_many, .ref a_D_ways, .ref a_D_base, .int D_isFound, .int D_foundLimit, .int D_nodes, .ref a_D_ruleOf, .ref a_D_sortAt, .ref a_D_from, .ref a_D_upTo, .ref a_D_firsts, .ref a_D_parts, .ref a_D_variables, .ref a_D_order, .ref a_D_pile, .ref a_D_next])), (a_D_row, .inl (cI, 59, .inl (upd D_row D_length.toNatClampNeg p1)))]) hx hb hts (fun w h => List.mem_cons_of_mem _ (in_Ref w h)) t_Ref t_Ref_ok n_Ref hown hK.1 hP hD hS 0 rfl rfl 11 (by decide +kernel) (hts _ (List.mem_cons_of_mem _ m_518)) (fun _ h9 => h9) rfl (by decide +kernel) rfl rfl (Nat.le_of_ble_eq_true rfl) d_Ref_add_36 rfl (fun H locs hP hD hS => ?_)
      refine lv_aload_n hx hb d_Ref_add_39 rfl (lv_at hl 0 rfl) ?_
      refine lv_iconst (v := (0 : Int32)) hx hb d_Ref_add_40 (by decide +kernel) ?_
      refine x_put (D := (dC, dI)) (ci := 6) (v := .int (0 : Int32)) (ty := .boolean) (C := "SyntaxTreesModel") (T := F_Ref) (N := 28) (w1 := [(a_D, .inr (6, [.int D_symbols, .ref a_D_types, .ref a_D_sortOf, .int D_sorts, .int D_rules, .int D_isOpen, .ref a_D_makes, .ref a_D_starts, .ref a_D_told, .int D_all, .ref a_D_row, .int (D_length + (1 : Int32)), .ref a_D_many, .ref a_D_ways, .ref a_D_base, .int (0 : Int32), .int D_foundLimit, .int D_nodes, .ref a_D_ruleOf, .ref a_D_sortAt, .ref a_D_from, .ref a_D_upTo, .ref a_D_firsts, .ref a_D_parts, .ref a_D_variables, .ref a_D_order, .ref a_D_pile, .ref a_D_next])), (a_D_row, .inl (cI, 59, .inl (upd D_row D_length.toNatClampNeg p1)))]) hx hb hts (fun w h => List.mem_cons_of_mem _ (in_Ref w h)) t_Ref t_Ref_ok n_Ref hown hK.1 hP hD hS 0 rfl rfl 15 (by decide +kernel) (hts _ (List.mem_cons_of_mem _ m_522)) (fun _ h9 => h9) rfl (by decide +kernel) rfl rfl (Nat.le_of_ble_eq_true rfl) d_Ref_add_41 rfl (fun H locs hP hD hS => ?_)
      refine lv_aload_n hx hb d_Ref_add_44 rfl (lv_at hl 0 rfl) ?_
      refine va_get (D := (dC, dI)) (ci := 6) (v := .int (D_length + (1 : Int32))) (C := "SyntaxTreesModel") (T := F_Ref) (N := 28) hx hb hts (fun w h => List.mem_cons_of_mem _ (in_Ref w h)) hown hK.1 hP 0 rfl rfl 11 (by decide +kernel) (hts _ (List.mem_cons_of_mem _ m_518)) (fun _ h9 => h9) rfl d_Ref_add_45 ?_
      cases hf
      subst hQ
      exact W.iret hx hb hr (fun t ht _ => ⟨⟨_, (), rfl, rfl, by rw [ht]; exact hP, hD⟩, hS.F ht⟩) hS.2.2 d_Ref_add_48
    · have hf := x_pos c3 hf
      refine lv_iconst (v := (-1 : Int32)) hx hb d_Ref_add_17 (by decide +kernel) ?_
      cases hf
      subst hQ
      exact W.iret hx hb hr (fun t ht _ => ⟨⟨_, (), rfl, rfl, by rw [ht]; exact hP, hD⟩, hS.F ht⟩) hS.2.2 d_Ref_add_18
set_option maxHeartbeats 4000000 in
set_option maxRecDepth 100000 in
theorem c_Ref_empty (l : Launch) (dC : Nat → ClassId) (dI : Nat → Nat → Nat) (cI cJ cB : ClassId) (a_D a_D_types a_D_sortOf a_D_makes a_D_starts a_D_told a_D_row a_D_many a_D_ways a_D_base a_D_ruleOf a_D_sortAt a_D_from a_D_upTo a_D_firsts a_D_parts a_D_variables a_D_order a_D_pile a_D_next : Nat)  (D_symbols : Int32) (D_sorts : Int32) (D_rules : Int32) (D_isOpen : Int32) (D_all : Int32) (D_length : Int32) (D_isFound : Int32) (D_foundLimit : Int32) (D_nodes : Int32)  (sz : Nat) (n : Nat) (o : Int32 × Int32 × Int32) (hf : f_Ref_empty n D_length = some o) : Met l y_Ref_empty w_Ref_empty ({ frames := 0, cells := 0, slots := 0, locals := 0 }) (va_Pc [.ref a_D] (fun U => U.heap.size = sz ∧ va_P (dC, dI) vwCl [(a_D, .inr (6, [.int D_symbols, .ref a_D_types, .ref a_D_sortOf, .int D_sorts, .int D_rules, .int D_isOpen, .ref a_D_makes, .ref a_D_starts, .ref a_D_told, .int D_all, .ref a_D_row, .int D_length, .ref a_D_many, .ref a_D_ways, .ref a_D_base, .int D_isFound, .int D_foundLimit, .int D_nodes, .ref a_D_ruleOf, .ref a_D_sortAt, .ref a_D_from, .ref a_D_upTo, .ref a_D_firsts, .ref a_D_parts, .ref a_D_variables, .ref a_D_order, .ref a_D_pile, .ref a_D_next]))] U.heap ∧ x_K (dC, dI) [(cI, .int), (cJ, .long), (cB, .byte)] U ∧ va_D (fun _ => True) [(a_D, .inr (6, [.int D_symbols, .ref a_D_types, .ref a_D_sortOf, .int D_sorts, .int D_rules, .int D_isOpen, .ref a_D_makes, .ref a_D_starts, .ref a_D_told, .int D_all, .ref a_D_row, .int D_length, .ref a_D_many, .ref a_D_ways, .ref a_D_base, .int D_isFound, .int D_foundLimit, .int D_nodes, .ref a_D_ruleOf, .ref a_D_sortAt, .ref a_D_from, .ref a_D_upTo, .ref a_D_firsts, .ref a_D_parts, .ref a_D_variables, .ref a_D_order, .ref a_D_pile, .ref a_D_next]))])) (va_Qi (fun r (_ : Unit) => r = o.1) (fun _ t => va_P (dC, dI) vwCl [(a_D, .inr (6, [.int D_symbols, .ref a_D_types, .ref a_D_sortOf, .int D_sorts, .int D_rules, .int D_isOpen, .ref a_D_makes, .ref a_D_starts, .ref a_D_told, .int D_all, .ref a_D_row, .int o.2.1, .ref a_D_many, .ref a_D_ways, .ref a_D_base, .int o.2.2, .int D_foundLimit, .int D_nodes, .ref a_D_ruleOf, .ref a_D_sortAt, .ref a_D_from, .ref a_D_upTo, .ref a_D_firsts, .ref a_D_parts, .ref a_D_variables, .ref a_D_order, .ref a_D_pile, .ref a_D_next]))] t.heap ∧ va_D (va_A [(a_D, .inr (6, [.int D_symbols, .ref a_D_types, .ref a_D_sortOf, .int D_sorts, .int D_rules, .int D_isOpen, .ref a_D_makes, .ref a_D_starts, .ref a_D_told, .int D_all, .ref a_D_row, .int D_length, .ref a_D_many, .ref a_D_ways, .ref a_D_base, .int D_isFound, .int D_foundLimit, .int D_nodes, .ref a_D_ruleOf, .ref a_D_sortAt, .ref a_D_from, .ref a_D_upTo, .ref a_D_firsts, .ref a_D_parts, .ref a_D_variables, .ref a_D_order, .ref a_D_pile, .ref a_D_next]))] sz) [(a_D, .inr (6, [.int D_symbols, .ref a_D_types, .ref a_D_sortOf, .int D_sorts, .int D_rules, .int D_isOpen, .ref a_D_makes, .ref a_D_starts, .ref a_D_told, .int D_all, .ref a_D_row, .int o.2.1, .ref a_D_many, .ref a_D_ways, .ref a_D_base, .int o.2.2, .int D_foundLimit, .int D_nodes, .ref a_D_ruleOf, .ref a_D_sortAt, .ref a_D_from, .ref a_D_upTo, .ref a_D_firsts, .ref a_D_parts, .ref a_D_variables, .ref a_D_order, .ref a_D_pile, .ref a_D_next]))]) (va_A [(a_D, .inr (6, [.int D_symbols, .ref a_D_types, .ref a_D_sortOf, .int D_sorts, .int D_rules, .int D_isOpen, .ref a_D_makes, .ref a_D_starts, .ref a_D_told, .int D_all, .ref a_D_row, .int D_length, .ref a_D_many, .ref a_D_ways, .ref a_D_base, .int D_isFound, .int D_foundLimit, .int D_nodes, .ref a_D_ruleOf, .ref a_D_sortAt, .ref a_D_from, .ref a_D_upTo, .ref a_D_firsts, .ref a_D_parts, .ref a_D_variables, .ref a_D_order, .ref a_D_pile, .ref a_D_next]))] sz)) 0 0 (va_A [(a_D, .inr (6, [.int D_symbols, .ref a_D_types, .ref a_D_sortOf, .int D_sorts, .int D_rules, .int D_isOpen, .ref a_D_makes, .ref a_D_starts, .ref a_D_told, .int D_all, .ref a_D_row, .int D_length, .ref a_D_many, .ref a_D_ways, .ref a_D_base, .int D_isFound, .int D_foundLimit, .int D_nodes, .ref a_D_ruleOf, .ref a_D_sortAt, .ref a_D_from, .ref a_D_upTo, .ref a_D_firsts, .ref a_D_parts, .ref a_D_variables, .ref a_D_order, .ref a_D_pile, .ref a_D_next]))] sz) := by
  refine Met.ofW (cc := b_Ref_empty) (maxL := 2) (ret := (some .int)) (by decide +kernel) rfl ?_
  intro p e s m args below meth c s₁ B hml hv
  obtain ⟨rfl, hsz, hP, hK, hD0⟩ := hv
  have hx := B.exec
  have hb := B.bytes
  have hr := B.returns
  have hts := atoms_spec (ws := w_Ref_empty) B.pre
  have hown : s.vm.findClass "SyntaxTreesModel" = some m.cls := findClass_of_methodNamed B.named
  have hlocks := B.notSynchronized
  subst hsz
  have hD := hD0.self (sz := s.heap.size)
  generalize hAe : va_A [(a_D, .inr (6, [.int D_symbols, .ref a_D_types, .ref a_D_sortOf, .int D_sorts, .int D_rules, .int D_isOpen, .ref a_D_makes, .ref a_D_starts, .ref a_D_told, .int D_all, .ref a_D_row, .int D_length, .ref a_D_many, .ref a_D_ways, .ref a_D_base, .int D_isFound, .int D_foundLimit, .int D_nodes, .ref a_D_ruleOf, .ref a_D_sortAt, .ref a_D_from, .ref a_D_upTo, .ref a_D_firsts, .ref a_D_parts, .ref a_D_variables, .ref a_D_order, .ref a_D_pile, .ref a_D_next]))] s.heap.size = A at hD ⊢
  have hA : ∀ q : Nat, s.heap.size ≤ q → A q := fun q h => by rw [← hAe]; exact Or.inr h
  have hS : va_S A s.heap s.heap [] := va_S.rf
  have hP : va_P (dC, dI) vwCl [(a_D, .inr (6, [.int D_symbols, .ref a_D_types, .ref a_D_sortOf, .int D_sorts, .int D_rules, .int D_isOpen, .ref a_D_makes, .ref a_D_starts, .ref a_D_told, .int D_all, .ref a_D_row, .int D_length, .ref a_D_many, .ref a_D_ways, .ref a_D_base, .int D_isFound, .int D_foundLimit, .int D_nodes, .ref a_D_ruleOf, .ref a_D_sortAt, .ref a_D_from, .ref a_D_upTo, .ref a_D_firsts, .ref a_D_parts, .ref a_D_variables, .ref a_D_order, .ref a_D_pile, .ref a_D_next]))] s.heap := hP
  have hl := lv_entry ([.ref a_D]) (n := 2) (Nat.le_of_ble_eq_true rfl)
  rw [lg_entry_eq]
  generalize (lg_sl ([.ref a_D]) ++ List.replicate (2 - (lg_sl ([.ref a_D])).length) Slot.unset).toArray = ls at hl ⊢
  have hl : lv_has ls 2 [(0, .ref a_D)] := hl
  refine x_Q (fun Q hQ => ?_)
  unfold f_Ref_empty at hf
  refine lv_aload_n hx hb d_Ref_empty_0 rfl (lv_at hl 0 rfl) ?_
  refine va_get (D := (dC, dI)) (ci := 6) (v := .int D_length) (C := "SyntaxTreesModel") (T := F_Ref) (N := 28) hx hb hts (fun w h => List.mem_cons_of_mem _ (in_Ref w h)) hown hK.1 hP 0 rfl rfl 11 (by decide +kernel) (hts _ (List.mem_cons_of_mem _ m_518)) (fun _ h9 => h9) rfl d_Ref_empty_1 ?_
  refine lv_istore_n (lv' := [(1, .int D_length), (0, .ref a_D)]) hx hb d_Ref_empty_4 rfl hl (by decide +kernel) rfl (fun ls hl => ?_)
  refine lv_aload_n hx hb d_Ref_empty_5 rfl (lv_at hl 1 rfl) ?_
  refine lv_iconst (v := (0 : Int32)) hx hb d_Ref_empty_6 (by decide +kernel) ?_
  refine x_put (D := (dC, dI)) (ci := 6) (v := .int (0 : Int32)) (ty := .int) (C := "SyntaxTreesModel") (T := F_Ref) (N := 28) (w1 := [(a_D, .inr (6, [.int D_symbols, .ref a_D_types, .ref a_D_sortOf, .int D_sorts, .int D_rules, .int D_isOpen, .ref a_D_makes, .ref a_D_starts, .ref a_D_told, .int D_all, .ref a_D_row, .int (0 : Int32), .ref a_D_many, .ref a_D_ways, .ref a_D_base, .int D_isFound, .int D_foundLimit, .int D_nodes, .ref a_D_ruleOf, .ref a_D_sortAt, .ref a_D_from, .ref a_D_upTo, .ref a_D_firsts, .ref a_D_parts, .ref a_D_variables, .ref a_D_order, .ref a_D_pile, .ref a_D_next]))]) hx hb hts (fun w h => List.mem_cons_of_mem _ (in_Ref w h)) t_Ref t_Ref_ok n_Ref hown hK.1 hP hD hS 0 rfl rfl 11 (by decide +kernel) (hts _ (List.mem_cons_of_mem _ m_518)) (fun _ h9 => h9) rfl (by decide +kernel) rfl rfl (Nat.le_of_ble_eq_true rfl) d_Ref_empty_7 rfl (fun H locs hP hD hS => ?_)
  refine lv_aload_n hx hb d_Ref_empty_10 rfl (lv_at hl 1 rfl) ?_
  refine lv_iconst (v := (0 : Int32)) hx hb d_Ref_empty_11 (by decide +kernel) ?_
  refine x_put (D := (dC, dI)) (ci := 6) (v := .int (0 : Int32)) (ty := .boolean) (C := "SyntaxTreesModel") (T := F_Ref) (N := 28) (w1 := [(a_D, .inr (6, [.int D_symbols, .ref a_D_types, .ref a_D_sortOf, .int D_sorts, .int D_rules, .int D_isOpen, .ref a_D_makes, .ref a_D_starts, .ref a_D_told, .int D_all, .ref a_D_row, .int (0 : Int32), .ref a_D_many, .ref a_D_ways, .ref a_D_base, .int (0 : Int32), .int D_foundLimit, .int D_nodes, .ref a_D_ruleOf, .ref a_D_sortAt, .ref a_D_from, .ref a_D_upTo, .ref a_D_firsts, .ref a_D_parts, .ref a_D_variables, .ref a_D_order, .ref a_D_pile, .ref a_D_next]))]) hx hb hts (fun w h => List.mem_cons_of_mem _ (in_Ref w h)) t_Ref t_Ref_ok n_Ref hown hK.1 hP hD hS 0 rfl rfl 15 (by decide +kernel) (hts _ (List.mem_cons_of_mem _ m_522)) (fun _ h9 => h9) rfl (by decide +kernel) rfl rfl (Nat.le_of_ble_eq_true rfl) d_Ref_empty_12 rfl (fun H locs hP hD hS => ?_)
  refine lv_iload_n hx hb d_Ref_empty_15 rfl (lv_at hl 0 rfl) ?_
  cases hf
  subst hQ
  exact W.iret hx hb hr (fun t ht _ => ⟨⟨_, (), rfl, rfl, by rw [ht]; exact hP, hD⟩, hS.F ht⟩) hS.2.2 d_Ref_empty_16
set_option maxHeartbeats 4000000 in
set_option maxRecDepth 100000 in
theorem c_Ref_lengthOf (l : Launch) (dC : Nat → ClassId) (dI : Nat → Nat → Nat) (cI cJ cB : ClassId) (a_D a_D_types a_D_sortOf a_D_makes a_D_starts a_D_told a_D_row a_D_many a_D_ways a_D_base a_D_ruleOf a_D_sortAt a_D_from a_D_upTo a_D_firsts a_D_parts a_D_variables a_D_order a_D_pile a_D_next : Nat)  (D_symbols : Int32) (D_sorts : Int32) (D_rules : Int32) (D_isOpen : Int32) (D_all : Int32) (D_length : Int32) (D_isFound : Int32) (D_foundLimit : Int32) (D_nodes : Int32) (D_starts : Nat → Int32) (p1 : Int32) (n : Nat) (o : Int32) (hf : f_Ref_lengthOf n D_starts p1 = some o) : Met l y_Ref_lengthOf w_Ref_lengthOf ({ frames := 0, cells := 0, slots := 0, locals := 0 }) (va_Pc [.ref a_D, .int p1] (fun U => va_P (dC, dI) vwCl [(a_D, .inr (6, [.int D_symbols, .ref a_D_types, .ref a_D_sortOf, .int D_sorts, .int D_rules, .int D_isOpen, .ref a_D_makes, .ref a_D_starts, .ref a_D_told, .int D_all, .ref a_D_row, .int D_length, .ref a_D_many, .ref a_D_ways, .ref a_D_base, .int D_isFound, .int D_foundLimit, .int D_nodes, .ref a_D_ruleOf, .ref a_D_sortAt, .ref a_D_from, .ref a_D_upTo, .ref a_D_firsts, .ref a_D_parts, .ref a_D_variables, .ref a_D_order, .ref a_D_pile, .ref a_D_next])), (a_D_starts, .inl (cI, 1501, .inl D_starts))] U.heap ∧ x_K (dC, dI) [(cI, .int), (cJ, .long), (cB, .byte)] U)) (QcRead o) 0 0 (fun _ => False) := by
  refine Met.ofW (cc := b_Ref_lengthOf) (maxL := 2) (ret := (some .int)) (by decide +kernel) rfl ?_
  intro p e s m args below meth c s₁ B hml hv
  obtain ⟨rfl, hP, hK⟩ := hv
  have hx := B.exec
  have hb := B.bytes
  have hr := B.returns
  have hts := atoms_spec (ws := w_Ref_lengthOf) B.pre
  have hown : s.vm.findClass "SyntaxTreesModel" = some m.cls := findClass_of_methodNamed B.named
  have hlocks := B.notSynchronized
  have hP : va_P (dC, dI) vwCl [(a_D, .inr (6, [.int D_symbols, .ref a_D_types, .ref a_D_sortOf, .int D_sorts, .int D_rules, .int D_isOpen, .ref a_D_makes, .ref a_D_starts, .ref a_D_told, .int D_all, .ref a_D_row, .int D_length, .ref a_D_many, .ref a_D_ways, .ref a_D_base, .int D_isFound, .int D_foundLimit, .int D_nodes, .ref a_D_ruleOf, .ref a_D_sortAt, .ref a_D_from, .ref a_D_upTo, .ref a_D_firsts, .ref a_D_parts, .ref a_D_variables, .ref a_D_order, .ref a_D_pile, .ref a_D_next])), (a_D_starts, .inl (cI, 1501, .inl D_starts))] s.heap := hP
  have hl := lv_entry ([.ref a_D, .int p1]) (n := 2) (Nat.le_of_ble_eq_true rfl)
  rw [lg_entry_eq]
  generalize (lg_sl ([.ref a_D, .int p1]) ++ List.replicate (2 - (lg_sl ([.ref a_D, .int p1])).length) Slot.unset).toArray = ls at hl ⊢
  have hl : lv_has ls 2 [(0, .ref a_D), (1, .int p1)] := hl
  refine x_Q (fun Q hQ => ?_)
  unfold f_Ref_lengthOf at hf
  refine lv_aload_n hx hb d_Ref_lengthOf_0 rfl (lv_at hl 0 rfl) ?_
  refine va_get (D := (dC, dI)) (ci := 6) (v := .ref a_D_starts) (C := "SyntaxTreesModel") (T := F_Ref) (N := 28) hx hb hts (fun w h => List.mem_cons_of_mem _ (in_Ref w h)) hown hK.1 hP 0 rfl rfl 7 (by decide +kernel) (hts _ (List.mem_cons_of_mem _ m_514)) (fun _ h9 => h9) rfl d_Ref_lengthOf_1 ?_
  refine lv_iload_n hx hb d_Ref_lengthOf_4 rfl (lv_at hl 1 rfl) ?_
  refine lv_iconst (v := (1 : Int32)) hx hb d_Ref_lengthOf_5 (by decide +kernel) ?_
  refine lv_iadd hx hb d_Ref_lengthOf_6 ?_
  obtain ⟨h1, hf⟩ := x_gd hf
  refine va_iald hx hb hK.1 hP 1 0 rfl rfl h1 d_Ref_lengthOf_7 ?_
  refine lv_aload_n hx hb d_Ref_lengthOf_8 rfl (lv_at hl 0 rfl) ?_
  refine va_get (D := (dC, dI)) (ci := 6) (v := .ref a_D_starts) (C := "SyntaxTreesModel") (T := F_Ref) (N := 28) hx hb hts (fun w h => List.mem_cons_of_mem _ (in_Ref w h)) hown hK.1 hP 0 rfl rfl 7 (by decide +kernel) (hts _ (List.mem_cons_of_mem _ m_514)) (fun _ h9 => h9) rfl d_Ref_lengthOf_9 ?_
  refine lv_iload_n hx hb d_Ref_lengthOf_12 rfl (lv_at hl 1 rfl) ?_
  obtain ⟨h2, hf⟩ := x_gd hf
  refine va_iald hx hb hK.1 hP 1 0 rfl rfl h2 d_Ref_lengthOf_13 ?_
  refine lv_isub hx hb d_Ref_lengthOf_14 ?_
  cases hf
  subst hQ
  exact W.iret hx hb hr (fun t ht _ => ⟨rfl, ht⟩) (fun _ h => absurd h List.not_mem_nil) d_Ref_lengthOf_15
set_option maxHeartbeats 4000000 in
set_option maxRecDepth 100000 in
theorem c_Ref_capped (l : Launch) (dC : Nat → ClassId) (dI : Nat → Nat → Nat) (cI cJ cB : ClassId)  (p1 : Int32) (n : Nat) (o : Int32) (hf : f_Ref_capped n p1 = some o) : Met l y_Ref_capped w_Ref_capped ({ frames := 0, cells := 0, slots := 0, locals := 0 }) (va_Pc [.int p1] (fun U => va_P (dC, dI) vwCl [] U.heap ∧ x_K (dC, dI) [(cI, .int), (cJ, .long), (cB, .byte)] U)) (QcRead o) 0 0 (fun _ => False) := by
  refine Met.ofW (cc := b_Ref_capped) (maxL := 1) (ret := (some .int)) (by decide +kernel) rfl ?_
  intro p e s m args below meth c s₁ B hml hv
  obtain ⟨rfl, hP, hK⟩ := hv
  have hx := B.exec
  have hb := B.bytes
  have hr := B.returns
  have hts := atoms_spec (ws := w_Ref_capped) B.pre
  have hown : s.vm.findClass "SyntaxTreesModel" = some m.cls := findClass_of_methodNamed B.named
  have hlocks := B.notSynchronized
  have hP : va_P (dC, dI) vwCl [] s.heap := hP
  have hl := lv_entry ([.int p1]) (n := 1) (Nat.le_of_ble_eq_true rfl)
  rw [lg_entry_eq]
  generalize (lg_sl ([.int p1]) ++ List.replicate (1 - (lg_sl ([.int p1])).length) Slot.unset).toArray = ls at hl ⊢
  have hl : lv_has ls 1 [(0, .int p1)] := hl
  refine x_Q (fun Q hQ => ?_)
  unfold f_Ref_capped at hf
  refine lv_iload_n hx hb d_Ref_capped_0 rfl (lv_at hl 0 rfl) ?_
  refine lv_iconst (v := (2 : Int32)) hx hb d_Ref_capped_1 (by decide +kernel) ?_
  refine lv_icmp_le (tgt := 9) hx hb d_Ref_capped_2 (by decide +kernel) (fun c1 => ?_) (fun c1 => ?_)
  · have hf := x_pos c1 hf
    refine lv_iload_n hx hb d_Ref_capped_9 rfl (lv_at hl 0 rfl) ?_
    cases hf
    subst hQ
    exact W.iret hx hb hr (fun t ht _ => ⟨rfl, ht⟩) (fun _ h => absurd h List.not_mem_nil) d_Ref_capped_10
  · have hf := x_neg c1 hf
    refine lv_iconst (v := (2 : Int32)) hx hb d_Ref_capped_5 (by decide +kernel) ?_
    refine lv_goto (tgt := 10) hx hb d_Ref_capped_6 (by decide +kernel) ?_
    cases hf
    subst hQ
    exact W.iret hx hb hr (fun t ht _ => ⟨rfl, ht⟩) (fun _ h => absurd h List.not_mem_nil) d_Ref_capped_10
set_option maxHeartbeats 4000000 in
set_option maxRecDepth 100000 in
theorem c_Ref_treesOf (l : Launch) (dC : Nat → ClassId) (dI : Nat → Nat → Nat) (cI cJ cB : ClassId) (a_D a_D_types a_D_sortOf a_D_makes a_D_starts a_D_told a_D_row a_D_many a_D_ways a_D_base a_D_ruleOf a_D_sortAt a_D_from a_D_upTo a_D_firsts a_D_parts a_D_variables a_D_order a_D_pile a_D_next : Nat)  (D_symbols : Int32) (D_sorts : Int32) (D_rules : Int32) (D_isOpen : Int32) (D_all : Int32) (D_length : Int32) (D_isFound : Int32) (D_foundLimit : Int32) (D_nodes : Int32) (D_types : Nat → Int32) (D_sortOf : Nat → Int32) (D_many : Nat → Int32) (p1 : Int32) (p2 : Int32) (p3 : Int32) (n : Nat) (o : Int32) (hf : f_Ref_treesOf n D_types D_sortOf D_many p1 p2 p3 = some o) : Met l y_Ref_treesOf w_Ref_treesOf ({ frames := 0, cells := 0, slots := 0, locals := 0 }) (va_Pc [.ref a_D, .int p1, .int p2, .int p3] (fun U => va_P (dC, dI) vwCl [(a_D, .inr (6, [.int D_symbols, .ref a_D_types, .ref a_D_sortOf, .int D_sorts, .int D_rules, .int D_isOpen, .ref a_D_makes, .ref a_D_starts, .ref a_D_told, .int D_all, .ref a_D_row, .int D_length, .ref a_D_many, .ref a_D_ways, .ref a_D_base, .int D_isFound, .int D_foundLimit, .int D_nodes, .ref a_D_ruleOf, .ref a_D_sortAt, .ref a_D_from, .ref a_D_upTo, .ref a_D_firsts, .ref a_D_parts, .ref a_D_variables, .ref a_D_order, .ref a_D_pile, .ref a_D_next])), (a_D_types, .inl (cI, 1000, .inl D_types)), (a_D_sortOf, .inl (cI, 1000, .inl D_sortOf)), (a_D_many, .inl (cB, 360000, .inl D_many))] U.heap ∧ x_K (dC, dI) [(cI, .int), (cJ, .long), (cB, .byte)] U)) (QcRead o) 0 0 (fun _ => False) := by
  refine Met.ofW (cc := b_Ref_treesOf) (maxL := 4) (ret := (some .int)) (by decide +kernel) rfl ?_
  intro p e s m args below meth c s₁ B hml hv
  obtain ⟨rfl, hP, hK⟩ := hv
  have hx := B.exec
  have hb := B.bytes
  have hr := B.returns
  have hts := atoms_spec (ws := w_Ref_treesOf) B.pre
  have hown : s.vm.findClass "SyntaxTreesModel" = some m.cls := findClass_of_methodNamed B.named
  have hlocks := B.notSynchronized
  have hP : va_P (dC, dI) vwCl [(a_D, .inr (6, [.int D_symbols, .ref a_D_types, .ref a_D_sortOf, .int D_sorts, .int D_rules, .int D_isOpen, .ref a_D_makes, .ref a_D_starts, .ref a_D_told, .int D_all, .ref a_D_row, .int D_length, .ref a_D_many, .ref a_D_ways, .ref a_D_base, .int D_isFound, .int D_foundLimit, .int D_nodes, .ref a_D_ruleOf, .ref a_D_sortAt, .ref a_D_from, .ref a_D_upTo, .ref a_D_firsts, .ref a_D_parts, .ref a_D_variables, .ref a_D_order, .ref a_D_pile, .ref a_D_next])), (a_D_types, .inl (cI, 1000, .inl D_types)), (a_D_sortOf, .inl (cI, 1000, .inl D_sortOf)), (a_D_many, .inl (cB, 360000, .inl D_many))] s.heap := hP
  have hl := lv_entry ([.ref a_D, .int p1, .int p2, .int p3]) (n := 4) (Nat.le_of_ble_eq_true rfl)
  rw [lg_entry_eq]
  generalize (lg_sl ([.ref a_D, .int p1, .int p2, .int p3]) ++ List.replicate (4 - (lg_sl ([.ref a_D, .int p1, .int p2, .int p3])).length) Slot.unset).toArray = ls at hl ⊢
  have hl : lv_has ls 4 [(0, .ref a_D), (1, .int p1), (2, .int p2), (3, .int p3)] := hl
  refine x_Q (fun Q hQ => ?_)
  unfold f_Ref_treesOf at hf
  refine lv_aload_n hx hb d_Ref_treesOf_0 rfl (lv_at hl 0 rfl) ?_
  refine va_get (D := (dC, dI)) (ci := 6) (v := .ref a_D_many) (C := "SyntaxTreesModel") (T := F_Ref) (N := 28) hx hb hts (fun w h => List.mem_cons_of_mem _ (in_Ref w h)) hown hK.1 hP 0 rfl rfl 12 (by decide +kernel) (hts _ (List.mem_cons_of_mem _ m_519)) (fun _ h9 => h9) rfl d_Ref_treesOf_1 ?_
  refine lv_sipush (v := (3600 : Int32)) hx hb d_Ref_treesOf_4 (by decide +kernel) ?_
  refine lv_aload_n hx hb d_Ref_treesOf_7 rfl (lv_at hl 0 rfl) ?_
  refine va_get (D := (dC, dI)) (ci := 6) (v := .ref a_D_sortOf) (C := "SyntaxTreesModel") (T := F_Ref) (N := 28) hx hb hts (fun w h => List.mem_cons_of_mem _ (in_Ref w h)) hown hK.1 hP 0 rfl rfl 2 (by decide +kernel) (hts _ (List.mem_cons_of_mem _ m_509)) (fun _ h9 => h9) rfl d_Ref_treesOf_8 ?_
  refine lv_aload_n hx hb d_Ref_treesOf_11 rfl (lv_at hl 0 rfl) ?_
  refine va_get (D := (dC, dI)) (ci := 6) (v := .ref a_D_types) (C := "SyntaxTreesModel") (T := F_Ref) (N := 28) hx hb hts (fun w h => List.mem_cons_of_mem _ (in_Ref w h)) hown hK.1 hP 0 rfl rfl 1 (by decide +kernel) (hts _ (List.mem_cons_of_mem _ m_508)) (fun _ h9 => h9) rfl d_Ref_treesOf_12 ?_
  refine lv_iload_n hx hb d_Ref_treesOf_15 rfl (lv_at hl 1 rfl) ?_
  obtain ⟨h1, hf⟩ := x_gd hf
  refine va_iald hx hb hK.1 hP 1 0 rfl rfl h1 d_Ref_treesOf_16 ?_
  obtain ⟨h2, hf⟩ := x_gd hf
  refine va_iald hx hb hK.1 hP 2 0 rfl rfl h2 d_Ref_treesOf_17 ?_
  refine lv_imul hx hb d_Ref_treesOf_18 ?_
  refine lv_bipush (v := (60 : Int32)) hx hb d_Ref_treesOf_19 (by decide +kernel) ?_
  refine lv_iload_n hx hb d_Ref_treesOf_21 rfl (lv_at hl 2 rfl) ?_
  refine lv_imul hx hb d_Ref_treesOf_22 ?_
  refine lv_iadd hx hb d_Ref_treesOf_23 ?_
  refine lv_iload_n hx hb d_Ref_treesOf_24 rfl (lv_at hl 3 rfl) ?_
  refine lv_iadd hx hb d_Ref_treesOf_25 ?_
  obtain ⟨h3, hf⟩ := x_gd hf
  refine va_bald hx hb hK.1 hP 3 2 rfl rfl h3 d_Ref_treesOf_26 ?_
  cases hf
  subst hQ
  exact W.iret hx hb hr (fun t ht _ => ⟨rfl, ht⟩) (fun _ h => absurd h List.not_mem_nil) d_Ref_treesOf_27
set_option maxHeartbeats 4000000 in
set_option maxRecDepth 100000 in
theorem w_Ref_step_L102 {p : Program} {l : Launch} {e : Env} {s : State} {m : MethodId} {args : Array Value} {below : List Frame} {meth : Method} {c : Code} {dC : Nat → ClassId} {dI : Nat → Nat → Nat} {cI cJ cB : ClassId} {a_D a_D_types a_D_sortOf a_D_makes a_D_starts a_D_told a_D_row a_D_many a_D_ways a_D_base a_D_ruleOf a_D_sortAt a_D_from a_D_upTo a_D_firsts a_D_parts a_D_variables a_D_order a_D_pile a_D_next : Nat} {A : Nat → Prop} {Q : State → Prop} (n : Nat) (v6 : Int32) (v5 : Int32) (v4 : Int32) (D_symbols : Int32) (D_sorts : Int32) (D_rules : Int32) (D_isOpen : Int32) (D_all : Int32) (D_length : Int32) (D_isFound : Int32) (D_foundLimit : Int32) (D_nodes : Int32) (D_types : Nat → Int32) (D_sortOf : Nat → Int32) (D_starts : Nat → Int32) (D_told : Nat → Int32) (D_row : Nat → Int32) (D_many : Nat → Int32) (D_ways : Nat → Int32) (hx : p.tables.exec = Jvm.exec) (hb : c.code = b_Ref_step) (hml : c.maxLocals = 10) (hown : s.vm.findClass "SyntaxTreesModel" = some m.cls) (hts : ∀ w ∈ w_Ref_step, w.before args s = true) (hK : x_K (dC, dI) [(cI, .int), (cJ, .long), (cB, .byte)] s) (hA : ∀ q, s.heap.size ≤ q → A q) : ∀ (k : Nat) (v8 : Int32) (v7 : Int32) (o : Int32 × Int32) (H : Heap) (locs : List Loc) (ls : Array Slot), f_Ref_step_L102 n v6 v5 v4 D_types D_sortOf D_many D_ways k v8 v7 = some o → va_P (dC, dI) vwCl [(a_D, .inr (6, [.int D_symbols, .ref a_D_types, .ref a_D_sortOf, .int D_sorts, .int D_rules, .int D_isOpen, .ref a_D_makes, .ref a_D_starts, .ref a_D_told, .int D_all, .ref a_D_row, .int D_length, .ref a_D_many, .ref a_D_ways, .ref a_D_base, .int D_isFound, .int D_foundLimit, .int D_nodes, .ref a_D_ruleOf, .ref a_D_sortAt, .ref a_D_from, .ref a_D_upTo, .ref a_D_firsts, .ref a_D_parts, .ref a_D_variables, .ref a_D_order, .ref a_D_pile, .ref a_D_next])), (a_D_types, .inl (cI, 1000, .inl D_types)), (a_D_sortOf, .inl (cI, 1000, .inl D_sortOf)), (a_D_starts, .inl (cI, 1501, .inl D_starts)), (a_D_told, .inl (cI, 30000, .inl D_told)), (a_D_row, .inl (cI, 59, .inl D_row)), (a_D_many, .inl (cB, 360000, .inl D_many)), (a_D_ways, .inl (cB, 1890100, .inl D_ways))] H → va_D A [(a_D, .inr (6, [.int D_symbols, .ref a_D_types, .ref a_D_sortOf, .int D_sorts, .int D_rules, .int D_isOpen, .ref a_D_makes, .ref a_D_starts, .ref a_D_told, .int D_all, .ref a_D_row, .int D_length, .ref a_D_many, .ref a_D_ways, .ref a_D_base, .int D_isFound, .int D_foundLimit, .int D_nodes, .ref a_D_ruleOf, .ref a_D_sortAt, .ref a_D_from, .ref a_D_upTo, .ref a_D_firsts, .ref a_D_parts, .ref a_D_variables, .ref a_D_order, .ref a_D_pile, .ref a_D_next])), (a_D_types, .inl (cI, 1000, .inl D_types)), (a_D_sortOf, .inl (cI, 1000, .inl D_sortOf)), (a_D_starts, .inl (cI, 1501, .inl D_starts)), (a_D_told, .inl (cI, 30000, .inl D_told)), (a_D_row, .inl (cI, 59, .inl D_row)), (a_D_many, .inl (cB, 360000, .inl D_many)), (a_D_ways, .inl (cB, 1890100, .inl D_ways))] → va_S A s.heap H locs → lv_has ls 10 [(8, .int v8), (7, .int v7), (6, .int v6), (5, .int v5), (0, .ref a_D), (4, .int v4)] → (∀ (H : Heap) (locs : List Loc) (ls : Array Slot), va_P (dC, dI) vwCl [(a_D, .inr (6, [.int D_symbols, .ref a_D_types, .ref a_D_sortOf, .int D_sorts, .int D_rules, .int D_isOpen, .ref a_D_makes, .ref a_D_starts, .ref a_D_told, .int D_all, .ref a_D_row, .int D_length, .ref a_D_many, .ref a_D_ways, .ref a_D_base, .int D_isFound, .int D_foundLimit, .int D_nodes, .ref a_D_ruleOf, .ref a_D_sortAt, .ref a_D_from, .ref a_D_upTo, .ref a_D_firsts, .ref a_D_parts, .ref a_D_variables, .ref a_D_order, .ref a_D_pile, .ref a_D_next])), (a_D_types, .inl (cI, 1000, .inl D_types)), (a_D_sortOf, .inl (cI, 1000, .inl D_sortOf)), (a_D_starts, .inl (cI, 1501, .inl D_starts)), (a_D_told, .inl (cI, 30000, .inl D_told)), (a_D_row, .inl (cI, 59, .inl D_row)), (a_D_many, .inl (cB, 360000, .inl D_many)), (a_D_ways, .inl (cB, 1890100, .inl D_ways))] H → va_D A [(a_D, .inr (6, [.int D_symbols, .ref a_D_types, .ref a_D_sortOf, .int D_sorts, .int D_rules, .int D_isOpen, .ref a_D_makes, .ref a_D_starts, .ref a_D_told, .int D_all, .ref a_D_row, .int D_length, .ref a_D_many, .ref a_D_ways, .ref a_D_base, .int D_isFound, .int D_foundLimit, .int D_nodes, .ref a_D_ruleOf, .ref a_D_sortAt, .ref a_D_from, .ref a_D_upTo, .ref a_D_firsts, .ref a_D_parts, .ref a_D_variables, .ref a_D_order, .ref a_D_pile, .ref a_D_next])), (a_D_types, .inl (cI, 1000, .inl D_types)), (a_D_sortOf, .inl (cI, 1000, .inl D_sortOf)), (a_D_starts, .inl (cI, 1501, .inl D_starts)), (a_D_told, .inl (cI, 30000, .inl D_told)), (a_D_row, .inl (cI, 59, .inl D_row)), (a_D_many, .inl (cB, 360000, .inl D_many)), (a_D_ways, .inl (cB, 1890100, .inl D_ways))] → va_S A s.heap H locs → lv_has ls 10 [(8, .int o.1), (7, .int o.2), (6, .int v6), (5, .int v5), (0, .ref a_D), (4, .int v4)] → W p l e ({ frames := 1, cells := 0, slots := 0, locals := 23 }) s m args below meth c H locs 0 0 Q (F0 m 163 ls [])) → W p l e ({ frames := 1, cells := 0, slots := 0, locals := 23 }) s m args below meth c H locs 0 0 Q (F0 m 102 ls []) := by
  intro k
  induction k with
  | zero =>
    intro v8 v7 o H locs ls hf
    exact absurd hf (by simp [f_Ref_step_L102])
  | succ k ih =>
    intro v8 v7 o H locs ls hf hP hD hS hl kk
    rw [f_Ref_step_L102] at hf
    refine lv_iload hx hb d_Ref_step_102 (lv_at hl 0 rfl) ?_
    refine lv_iload hx hb d_Ref_step_104 (lv_at hl 5 rfl) ?_
    refine lv_icmp_ge (tgt := 163) hx hb d_Ref_step_106 (by decide +kernel) (fun c1 => ?_) (fun c1 => ?_)
    · have hf := x_pos c1 hf
      cases hf
      exact kk _ _ ls hP hD hS (lv_sub hl [0, 1, 2, 3, 4, 5] rfl)
    · have hf := x_neg c1 hf
      refine lv_iload hx hb d_Ref_step_109 (lv_at hl 1 rfl) ?_
      refine lv_iconst (v := (2 : Int32)) hx hb d_Ref_step_111 (by decide +kernel) ?_
      refine lv_icmp_ge (tgt := 163) hx hb d_Ref_step_112 (by decide +kernel) (fun c2 => ?_) (fun c2 => ?_)
      · have hf := x_pos c2 hf
        cases hf
        exact kk _ _ ls hP hD hS (lv_sub hl [0, 1, 2, 3, 4, 5] rfl)
      · have hf := x_neg c2 hf
        refine lv_aload_n hx hb d_Ref_step_115 rfl (lv_at hl 4 rfl) ?_
        refine va_get (D := (dC, dI)) (ci := 6) (v := .ref a_D_ways) (C := "SyntaxTreesModel") (T := F_Ref) (N := 28) hx hb hts (fun w h => List.mem_cons_of_mem _ (in_Ref w h)) hown hK.1 hP 0 rfl rfl 13 (by decide +kernel) (hts _ (List.mem_cons_of_mem _ m_520)) (fun _ h9 => h9) rfl d_Ref_step_116 ?_
        refine lv_iload hx hb d_Ref_step_119 (lv_at hl 3 rfl) ?_
        refine lv_bipush (v := (60 : Int32)) hx hb d_Ref_step_121 (by decide +kernel) ?_
        refine lv_isub hx hb d_Ref_step_123 ?_
        refine lv_iload hx hb d_Ref_step_124 (lv_at hl 0 rfl) ?_
        refine lv_iadd hx hb d_Ref_step_126 ?_
        obtain ⟨h3, hf⟩ := x_gd hf
        refine va_bald hx hb hK.1 hP 7 2 rfl rfl h3 d_Ref_step_127 ?_
        refine lv_istore (lv' := [(9, .int (D_ways ((v5 - (60 : Int32)) + v8).toNatClampNeg)), (8, .int v8), (7, .int v7), (6, .int v6), (5, .int v5), (0, .ref a_D), (4, .int v4)]) hx hb d_Ref_step_128 hl (by decide +kernel) rfl (fun ls hl => ?_)
        refine lv_iload hx hb d_Ref_step_130 (lv_at hl 2 rfl) ?_
        refine lv_iload hx hb d_Ref_step_132 (lv_at hl 0 rfl) ?_
        refine lv_if_ne (tgt := 141) hx hb d_Ref_step_134 (by decide +kernel) (fun c4 => ?_) (fun c4 => ?_)
        · have hf := x_neg c4 hf
          refine lv_iload hx hb d_Ref_step_141 (lv_at hl 0 rfl) ?_
          refine lv_aload_n hx hb d_Ref_step_143 rfl (lv_at hl 5 rfl) ?_
          refine lv_iload hx hb d_Ref_step_144 (lv_at hl 3 rfl) ?_
          refine lv_iload hx hb d_Ref_step_146 (lv_at hl 1 rfl) ?_
          refine lv_iload hx hb d_Ref_step_148 (lv_at hl 6 rfl) ?_
          obtain ⟨x5, hx5, hf⟩ := x_bd hf
          refine x_rdiV (As := [.int v6, .int v8, .int v4]) (rest := [.int (D_ways ((v5 - (60 : Int32)) + v8).toNatClampNeg), .int v7]) (wc := [(a_D, .inr (6, [.int D_symbols, .ref a_D_types, .ref a_D_sortOf, .int D_sorts, .int D_rules, .int D_isOpen, .ref a_D_makes, .ref a_D_starts, .ref a_D_told, .int D_all, .ref a_D_row, .int D_length, .ref a_D_many, .ref a_D_ways, .ref a_D_base, .int D_isFound, .int D_foundLimit, .int D_nodes, .ref a_D_ruleOf, .ref a_D_sortAt, .ref a_D_from, .ref a_D_upTo, .ref a_D_firsts, .ref a_D_parts, .ref a_D_variables, .ref a_D_order, .ref a_D_pile, .ref a_D_next])), (a_D_types, .inl (cI, 1000, .inl D_types)), (a_D_sortOf, .inl (cI, 1000, .inl D_sortOf)), (a_D_many, .inl (cB, 360000, .inl D_many))]) ⟨hx, hb, hml, hown, hts⟩ (c_Ref_treesOf l dC dI cI cJ cB a_D a_D_types a_D_sortOf a_D_makes a_D_starts a_D_told a_D_row a_D_many a_D_ways a_D_base a_D_ruleOf a_D_sortAt a_D_from a_D_upTo a_D_firsts a_D_parts a_D_variables a_D_order a_D_pile a_D_next D_symbols D_sorts D_rules D_isOpen D_all D_length D_isFound D_foundLimit D_nodes D_types D_sortOf D_many v6 v8 v4 n x5 hx5) (cwV 3 hts (x_gV m_620 m_621 m_35 m_48 m_622) rfl rfl rfl hd_Ref_treesOf ⟨Nat.le_of_ble_eq_true rfl, Nat.le_of_ble_eq_true rfl⟩) hK hP [0, 1, 2, 6] rfl (ci := 6) (q0 := 0) rfl rfl rfl rfl hl.1 rfl (Nat.le_of_ble_eq_true rfl) d_Ref_step_150 ⟨Nat.le_of_ble_eq_true rfl, Nat.le_of_ble_eq_true rfl⟩ ?_
          refine lv_imul hx hb d_Ref_step_153 ?_
          refine lv_iadd hx hb d_Ref_step_154 ?_
          refine lv_istore (lv' := [(7, .int (v7 + ((D_ways ((v5 - (60 : Int32)) + v8).toNatClampNeg) * x5))), (9, .int (D_ways ((v5 - (60 : Int32)) + v8).toNatClampNeg)), (8, .int v8), (6, .int v6), (5, .int v5), (0, .ref a_D), (4, .int v4)]) hx hb d_Ref_step_155 hl (by decide +kernel) rfl (fun ls hl => ?_)
          refine lv_iinc (v := (v8 + (1 : Int32))) (lv' := [(8, .int (v8 + (1 : Int32))), (7, .int (v7 + ((D_ways ((v5 - (60 : Int32)) + v8).toNatClampNeg) * x5))), (9, .int (D_ways ((v5 - (60 : Int32)) + v8).toNatClampNeg)), (6, .int v6), (5, .int v5), (0, .ref a_D), (4, .int v4)]) hx hb d_Ref_step_157 hl (k := 2) rfl rfl (by decide +kernel) rfl (fun ls hl => ?_)
          refine lv_goto (tgt := 102) hx hb d_Ref_step_160 (by decide +kernel) ?_
          exact ih (v8 + (1 : Int32)) (v7 + ((D_ways ((v5 - (60 : Int32)) + v8).toNatClampNeg) * x5)) o _ _ ls hf hP hD hS (lv_sub hl [0, 1, 3, 4, 5, 6] rfl) kk
        · have hf := x_pos c4 hf
          refine lv_iconst (v := (0 : Int32)) hx hb d_Ref_step_137 (by decide +kernel) ?_
          refine lv_goto (tgt := 154) hx hb d_Ref_step_138 (by decide +kernel) ?_
          refine lv_iadd hx hb d_Ref_step_154 ?_
          refine lv_istore (lv' := [(7, .int (v7 + (0 : Int32))), (9, .int (D_ways ((v5 - (60 : Int32)) + v8).toNatClampNeg)), (8, .int v8), (6, .int v6), (5, .int v5), (0, .ref a_D), (4, .int v4)]) hx hb d_Ref_step_155 hl (by decide +kernel) rfl (fun ls hl => ?_)
          refine lv_iinc (v := (v8 + (1 : Int32))) (lv' := [(8, .int (v8 + (1 : Int32))), (7, .int (v7 + (0 : Int32))), (9, .int (D_ways ((v5 - (60 : Int32)) + v8).toNatClampNeg)), (6, .int v6), (5, .int v5), (0, .ref a_D), (4, .int v4)]) hx hb d_Ref_step_157 hl (k := 2) rfl rfl (by decide +kernel) rfl (fun ls hl => ?_)
          refine lv_goto (tgt := 102) hx hb d_Ref_step_160 (by decide +kernel) ?_
          exact ih (v8 + (1 : Int32)) (v7 + (0 : Int32)) o _ _ ls hf hP hD hS (lv_sub hl [0, 1, 3, 4, 5, 6] rfl) kk
set_option maxHeartbeats 4000000 in
set_option maxRecDepth 100000 in
theorem c_Ref_step (l : Launch) (dC : Nat → ClassId) (dI : Nat → Nat → Nat) (cI cJ cB : ClassId) (a_D a_D_types a_D_sortOf a_D_makes a_D_starts a_D_told a_D_row a_D_many a_D_ways a_D_base a_D_ruleOf a_D_sortAt a_D_from a_D_upTo a_D_firsts a_D_parts a_D_variables a_D_order a_D_pile a_D_next : Nat)  (D_symbols : Int32) (D_sorts : Int32) (D_rules : Int32) (D_isOpen : Int32) (D_all : Int32) (D_length : Int32) (D_isFound : Int32) (D_foundLimit : Int32) (D_nodes : Int32) (D_types : Nat → Int32) (D_sortOf : Nat → Int32) (D_starts : Nat → Int32) (D_told : Nat → Int32) (D_row : Nat → Int32) (D_many : Nat → Int32) (D_ways : Nat → Int32) (p1 : Int32) (p2 : Int32) (p3 : Int32) (p4 : Int32) (sz : Nat) (n : Nat) (o : Nat → Int32) (hf : f_Ref_step n D_types D_sortOf D_starts D_told D_row D_many D_ways p1 p2 p3 p4 = some o) : Met l y_Ref_step w_Ref_step ({ frames := 1, cells := 0, slots := 0, locals := 23 }) (va_Pc [.ref a_D, .int p1, .int p2, .int p3, .int p4] (fun U => U.heap.size = sz ∧ va_P (dC, dI) vwCl [(a_D, .inr (6, [.int D_symbols, .ref a_D_types, .ref a_D_sortOf, .int D_sorts, .int D_rules, .int D_isOpen, .ref a_D_makes, .ref a_D_starts, .ref a_D_told, .int D_all, .ref a_D_row, .int D_length, .ref a_D_many, .ref a_D_ways, .ref a_D_base, .int D_isFound, .int D_foundLimit, .int D_nodes, .ref a_D_ruleOf, .ref a_D_sortAt, .ref a_D_from, .ref a_D_upTo, .ref a_D_firsts, .ref a_D_parts, .ref a_D_variables, .ref a_D_order, .ref a_D_pile, .ref a_D_next])), (a_D_types, .inl (cI, 1000, .inl D_types)), (a_D_sortOf, .inl (cI, 1000, .inl D_sortOf)), (a_D_starts, .inl (cI, 1501, .inl D_starts)), (a_D_told, .inl (cI, 30000, .inl D_told)), (a_D_row, .inl (cI, 59, .inl D_row)), (a_D_many, .inl (cB, 360000, .inl D_many)), (a_D_ways, .inl (cB, 1890100, .inl D_ways))] U.heap ∧ x_K (dC, dI) [(cI, .int), (cJ, .long), (cB, .byte)] U ∧ va_D (fun _ => True) [(a_D, .inr (6, [.int D_symbols, .ref a_D_types, .ref a_D_sortOf, .int D_sorts, .int D_rules, .int D_isOpen, .ref a_D_makes, .ref a_D_starts, .ref a_D_told, .int D_all, .ref a_D_row, .int D_length, .ref a_D_many, .ref a_D_ways, .ref a_D_base, .int D_isFound, .int D_foundLimit, .int D_nodes, .ref a_D_ruleOf, .ref a_D_sortAt, .ref a_D_from, .ref a_D_upTo, .ref a_D_firsts, .ref a_D_parts, .ref a_D_variables, .ref a_D_order, .ref a_D_pile, .ref a_D_next])), (a_D_types, .inl (cI, 1000, .inl D_types)), (a_D_sortOf, .inl (cI, 1000, .inl D_sortOf)), (a_D_starts, .inl (cI, 1501, .inl D_starts)), (a_D_told, .inl (cI, 30000, .inl D_told)), (a_D_row, .inl (cI, 59, .inl D_row)), (a_D_many, .inl (cB, 360000, .inl D_many)), (a_D_ways, .inl (cB, 1890100, .inl D_ways))])) (va_Qv (fun (_ : Unit) => True) (fun _ t => va_P (dC, dI) vwCl [(a_D, .inr (6, [.int D_symbols, .ref a_D_types, .ref a_D_sortOf, .int D_sorts, .int D_rules, .int D_isOpen, .ref a_D_makes, .ref a_D_starts, .ref a_D_told, .int D_all, .ref a_D_row, .int D_length, .ref a_D_many, .ref a_D_ways, .ref a_D_base, .int D_isFound, .int D_foundLimit, .int D_nodes, .ref a_D_ruleOf, .ref a_D_sortAt, .ref a_D_from, .ref a_D_upTo, .ref a_D_firsts, .ref a_D_parts, .ref a_D_variables, .ref a_D_order, .ref a_D_pile, .ref a_D_next])), (a_D_types, .inl (cI, 1000, .inl D_types)), (a_D_sortOf, .inl (cI, 1000, .inl D_sortOf)), (a_D_starts, .inl (cI, 1501, .inl D_starts)), (a_D_told, .inl (cI, 30000, .inl D_told)), (a_D_row, .inl (cI, 59, .inl D_row)), (a_D_many, .inl (cB, 360000, .inl D_many)), (a_D_ways, .inl (cB, 1890100, .inl o))] t.heap ∧ va_D (va_A [(a_D, .inr (6, [.int D_symbols, .ref a_D_types, .ref a_D_sortOf, .int D_sorts, .int D_rules, .int D_isOpen, .ref a_D_makes, .ref a_D_starts, .ref a_D_told, .int D_all, .ref a_D_row, .int D_length, .ref a_D_many, .ref a_D_ways, .ref a_D_base, .int D_isFound, .int D_foundLimit, .int D_nodes, .ref a_D_ruleOf, .ref a_D_sortAt, .ref a_D_from, .ref a_D_upTo, .ref a_D_firsts, .ref a_D_parts, .ref a_D_variables, .ref a_D_order, .ref a_D_pile, .ref a_D_next])), (a_D_types, .inl (cI, 1000, .inl D_types)), (a_D_sortOf, .inl (cI, 1000, .inl D_sortOf)), (a_D_starts, .inl (cI, 1501, .inl D_starts)), (a_D_told, .inl (cI, 30000, .inl D_told)), (a_D_row, .inl (cI, 59, .inl D_row)), (a_D_many, .inl (cB, 360000, .inl D_many)), (a_D_ways, .inl (cB, 1890100, .inl D_ways))] sz) [(a_D, .inr (6, [.int D_symbols, .ref a_D_types, .ref a_D_sortOf, .int D_sorts, .int D_rules, .int D_isOpen, .ref a_D_makes, .ref a_D_starts, .ref a_D_told, .int D_all, .ref a_D_row, .int D_length, .ref a_D_many, .ref a_D_ways, .ref a_D_base, .int D_isFound, .int D_foundLimit, .int D_nodes, .ref a_D_ruleOf, .ref a_D_sortAt, .ref a_D_from, .ref a_D_upTo, .ref a_D_firsts, .ref a_D_parts, .ref a_D_variables, .ref a_D_order, .ref a_D_pile, .ref a_D_next])), (a_D_types, .inl (cI, 1000, .inl D_types)), (a_D_sortOf, .inl (cI, 1000, .inl D_sortOf)), (a_D_starts, .inl (cI, 1501, .inl D_starts)), (a_D_told, .inl (cI, 30000, .inl D_told)), (a_D_row, .inl (cI, 59, .inl D_row)), (a_D_many, .inl (cB, 360000, .inl D_many)), (a_D_ways, .inl (cB, 1890100, .inl o))]) (va_A [(a_D, .inr (6, [.int D_symbols, .ref a_D_types, .ref a_D_sortOf, .int D_sorts, .int D_rules, .int D_isOpen, .ref a_D_makes, .ref a_D_starts, .ref a_D_told, .int D_all, .ref a_D_row, .int D_length, .ref a_D_many, .ref a_D_ways, .ref a_D_base, .int D_isFound, .int D_foundLimit, .int D_nodes, .ref a_D_ruleOf, .ref a_D_sortAt, .ref a_D_from, .ref a_D_upTo, .ref a_D_firsts, .ref a_D_parts, .ref a_D_variables, .ref a_D_order, .ref a_D_pile, .ref a_D_next])), (a_D_types, .inl (cI, 1000, .inl D_types)), (a_D_sortOf, .inl (cI, 1000, .inl D_sortOf)), (a_D_starts, .inl (cI, 1501, .inl D_starts)), (a_D_told, .inl (cI, 30000, .inl D_told)), (a_D_row, .inl (cI, 59, .inl D_row)), (a_D_many, .inl (cB, 360000, .inl D_many)), (a_D_ways, .inl (cB, 1890100, .inl D_ways))] sz)) 0 0 (va_A [(a_D, .inr (6, [.int D_symbols, .ref a_D_types, .ref a_D_sortOf, .int D_sorts, .int D_rules, .int D_isOpen, .ref a_D_makes, .ref a_D_starts, .ref a_D_told, .int D_all, .ref a_D_row, .int D_length, .ref a_D_many, .ref a_D_ways, .ref a_D_base, .int D_isFound, .int D_foundLimit, .int D_nodes, .ref a_D_ruleOf, .ref a_D_sortAt, .ref a_D_from, .ref a_D_upTo, .ref a_D_firsts, .ref a_D_parts, .ref a_D_variables, .ref a_D_order, .ref a_D_pile, .ref a_D_next])), (a_D_types, .inl (cI, 1000, .inl D_types)), (a_D_sortOf, .inl (cI, 1000, .inl D_sortOf)), (a_D_starts, .inl (cI, 1501, .inl D_starts)), (a_D_told, .inl (cI, 30000, .inl D_told)), (a_D_row, .inl (cI, 59, .inl D_row)), (a_D_many, .inl (cB, 360000, .inl D_many)), (a_D_ways, .inl (cB, 1890100, .inl D_ways))] sz) := by
  refine Met.ofW (cc := b_Ref_step) (maxL := 10) (ret := none) (by decide +kernel) rfl ?_
  intro p e s m args below meth c s₁ B hml hv
  obtain ⟨rfl, hsz, hP, hK, hD0⟩ := hv
  have hx := B.exec
  have hb := B.bytes
  have hr := B.returns
  have hts := atoms_spec (ws := w_Ref_step) B.pre
  have hown : s.vm.findClass "SyntaxTreesModel" = some m.cls := findClass_of_methodNamed B.named
  have hlocks := B.notSynchronized
  subst hsz
  have hD := hD0.self (sz := s.heap.size)
  generalize hAe : va_A [(a_D, .inr (6, [.int D_symbols, .ref a_D_types, .ref a_D_sortOf, .int D_sorts, .int D_rules, .int D_isOpen, .ref a_D_makes, .ref a_D_starts, .ref a_D_told, .int D_all, .ref a_D_row, .int D_length, .ref a_D_many, .ref a_D_ways, .ref a_D_base, .int D_isFound, .int D_foundLimit, .int D_nodes, .ref a_D_ruleOf, .ref a_D_sortAt, .ref a_D_from, .ref a_D_upTo, .ref a_D_firsts, .ref a_D_parts, .ref a_D_variables, .ref a_D_order, .ref a_D_pile, .ref a_D_next])), (a_D_types, .inl (cI, 1000, .inl D_types)), (a_D_sortOf, .inl (cI, 1000, .inl D_sortOf)), (a_D_starts, .inl (cI, 1501, .inl D_starts)), (a_D_told, .inl (cI, 30000, .inl D_told)), (a_D_row, .inl (cI, 59, .inl D_row)), (a_D_many, .inl (cB, 360000, .inl D_many)), (a_D_ways, .inl (cB, 1890100, .inl D_ways))] s.heap.size = A at hD ⊢
  have hA : ∀ q : Nat, s.heap.size ≤ q → A q := fun q h => by rw [← hAe]; exact Or.inr h
  have hS : va_S A s.heap s.heap [] := va_S.rf
  have hP : va_P (dC, dI) vwCl [(a_D, .inr (6, [.int D_symbols, .ref a_D_types, .ref a_D_sortOf, .int D_sorts, .int D_rules, .int D_isOpen, .ref a_D_makes, .ref a_D_starts, .ref a_D_told, .int D_all, .ref a_D_row, .int D_length, .ref a_D_many, .ref a_D_ways, .ref a_D_base, .int D_isFound, .int D_foundLimit, .int D_nodes, .ref a_D_ruleOf, .ref a_D_sortAt, .ref a_D_from, .ref a_D_upTo, .ref a_D_firsts, .ref a_D_parts, .ref a_D_variables, .ref a_D_order, .ref a_D_pile, .ref a_D_next])), (a_D_types, .inl (cI, 1000, .inl D_types)), (a_D_sortOf, .inl (cI, 1000, .inl D_sortOf)), (a_D_starts, .inl (cI, 1501, .inl D_starts)), (a_D_told, .inl (cI, 30000, .inl D_told)), (a_D_row, .inl (cI, 59, .inl D_row)), (a_D_many, .inl (cB, 360000, .inl D_many)), (a_D_ways, .inl (cB, 1890100, .inl D_ways))] s.heap := hP
  have hl := lv_entry ([.ref a_D, .int p1, .int p2, .int p3, .int p4]) (n := 10) (Nat.le_of_ble_eq_true rfl)
  rw [lg_entry_eq]
  generalize (lg_sl ([.ref a_D, .int p1, .int p2, .int p3, .int p4]) ++ List.replicate (10 - (lg_sl ([.ref a_D, .int p1, .int p2, .int p3, .int p4])).length) Slot.unset).toArray = ls at hl ⊢
  have hl : lv_has ls 10 [(0, .ref a_D), (1, .int p1), (2, .int p2), (3, .int p3), (4, .int p4)] := hl
  refine x_Q (fun Q hQ => ?_)
  unfold f_Ref_step at hf
  refine lv_bipush (v := (60 : Int32)) hx hb d_Ref_step_0 (by decide +kernel) ?_
  refine lv_aload_n hx hb d_Ref_step_2 rfl (lv_at hl 0 rfl) ?_
  refine va_get (D := (dC, dI)) (ci := 6) (v := .ref a_D_starts) (C := "SyntaxTreesModel") (T := F_Ref) (N := 28) hx hb hts (fun w h => List.mem_cons_of_mem _ (in_Ref w h)) hown hK.1 hP 0 rfl rfl 7 (by decide +kernel) (hts _ (List.mem_cons_of_mem _ m_514)) (fun _ h9 => h9) rfl d_Ref_step_3 ?_
  refine lv_iload_n hx hb d_Ref_step_6 rfl (lv_at hl 1 rfl) ?_
  obtain ⟨h1, hf⟩ := x_gd hf
  refine va_iald hx hb hK.1 hP 3 0 rfl rfl h1 d_Ref_step_7 ?_
  refine lv_iload_n hx hb d_Ref_step_8 rfl (lv_at hl 1 rfl) ?_
  refine lv_iadd hx hb d_Ref_step_9 ?_
  refine lv_iload_n hx hb d_Ref_step_10 rfl (lv_at hl 2 rfl) ?_
  refine lv_iadd hx hb d_Ref_step_11 ?_
  refine lv_imul hx hb d_Ref_step_12 ?_
  refine lv_istore (lv' := [(5, .int ((60 : Int32) * (((D_starts p1.toNatClampNeg) + p1) + p2))), (0, .ref a_D), (1, .int p1), (2, .int p2), (3, .int p3), (4, .int p4)]) hx hb d_Ref_step_13 hl (by decide +kernel) rfl (fun ls hl => ?_)
  refine lv_aload_n hx hb d_Ref_step_15 rfl (lv_at hl 1 rfl) ?_
  refine va_get (D := (dC, dI)) (ci := 6) (v := .ref a_D_told) (C := "SyntaxTreesModel") (T := F_Ref) (N := 28) hx hb hts (fun w h => List.mem_cons_of_mem _ (in_Ref w h)) hown hK.1 hP 0 rfl rfl 8 (by decide +kernel) (hts _ (List.mem_cons_of_mem _ m_515)) (fun _ h9 => h9) rfl d_Ref_step_16 ?_
  refine lv_aload_n hx hb d_Ref_step_19 rfl (lv_at hl 1 rfl) ?_
  refine va_get (D := (dC, dI)) (ci := 6) (v := .ref a_D_starts) (C := "SyntaxTreesModel") (T := F_Ref) (N := 28) hx hb hts (fun w h => List.mem_cons_of_mem _ (in_Ref w h)) hown hK.1 hP 0 rfl rfl 7 (by decide +kernel) (hts _ (List.mem_cons_of_mem _ m_514)) (fun _ h9 => h9) rfl d_Ref_step_20 ?_
  refine lv_iload_n hx hb d_Ref_step_23 rfl (lv_at hl 2 rfl) ?_
  obtain ⟨h2, hf⟩ := x_gd hf
  refine va_iald hx hb hK.1 hP 3 0 rfl rfl h2 d_Ref_step_24 ?_
  refine lv_iload_n hx hb d_Ref_step_25 rfl (lv_at hl 3 rfl) ?_
  refine lv_iadd hx hb d_Ref_step_26 ?_
  refine lv_iconst (v := (1 : Int32)) hx hb d_Ref_step_27 (by decide +kernel) ?_
  refine lv_isub hx hb d_Ref_step_28 ?_
  obtain ⟨h3, hf⟩ := x_gd hf
  refine va_iald hx hb hK.1 hP 4 0 rfl rfl h3 d_Ref_step_29 ?_
  refine lv_istore (lv' := [(6, .int (D_told (((D_starts p1.toNatClampNeg) + p2) - (1 : Int32)).toNatClampNeg)), (5, .int ((60 : Int32) * (((D_starts p1.toNatClampNeg) + p1) + p2))), (0, .ref a_D), (1, .int p1), (2, .int p2), (3, .int p3), (4, .int p4)]) hx hb d_Ref_step_30 hl (by decide +kernel) rfl (fun ls hl => ?_)
  refine lv_aload_n hx hb d_Ref_step_32 rfl (lv_at hl 2 rfl) ?_
  refine va_get (D := (dC, dI)) (ci := 6) (v := .ref a_D_types) (C := "SyntaxTreesModel") (T := F_Ref) (N := 28) hx hb hts (fun w h => List.mem_cons_of_mem _ (in_Ref w h)) hown hK.1 hP 0 rfl rfl 1 (by decide +kernel) (hts _ (List.mem_cons_of_mem _ m_508)) (fun _ h9 => h9) rfl d_Ref_step_33 ?_
  refine lv_iload hx hb d_Ref_step_36 (lv_at hl 0 rfl) ?_
  obtain ⟨h4, hf⟩ := x_gd hf
  refine va_iald hx hb hK.1 hP 1 0 rfl rfl h4 d_Ref_step_38 ?_
  refine lv_iconst (v := (-1 : Int32)) hx hb d_Ref_step_39 (by decide +kernel) ?_
  refine lv_icmp_ne (tgt := 89) hx hb d_Ref_step_40 (by decide +kernel) (fun c5 => ?_) (fun c5 => ?_)
  · have hf := x_neg c5 hf
    refine lv_iload_n hx hb d_Ref_step_89 rfl (lv_at hl 4 rfl) ?_
    refine lv_iconst (v := (1 : Int32)) hx hb d_Ref_step_90 (by decide +kernel) ?_
    refine lv_icmp_le (tgt := 179) hx hb d_Ref_step_91 (by decide +kernel) (fun c6 => ?_) (fun c6 => ?_)
    · have hf := x_pos c6 hf
      cases hf
      subst hQ
      exact W.vret hx hb hr (fun t ht _ => ⟨⟨(), rfl, trivial, by rw [ht]; exact hP, hD⟩, hS.F ht⟩) hS.2.2 d_Ref_step_179
    · have hf := x_neg c6 hf
      refine lv_iconst (v := (0 : Int32)) hx hb d_Ref_step_94 (by decide +kernel) ?_
      refine lv_istore (lv' := [(7, .int (0 : Int32)), (6, .int (D_told (((D_starts p1.toNatClampNeg) + p2) - (1 : Int32)).toNatClampNeg)), (5, .int ((60 : Int32) * (((D_starts p1.toNatClampNeg) + p1) + p2))), (0, .ref a_D), (1, .int p1), (2, .int p2), (3, .int p3), (4, .int p4)]) hx hb d_Ref_step_95 hl (by decide +kernel) rfl (fun ls hl => ?_)
      refine lv_iload_n hx hb d_Ref_step_97 rfl (lv_at hl 6 rfl) ?_
      refine lv_iconst (v := (1 : Int32)) hx hb d_Ref_step_98 (by decide +kernel) ?_
      refine lv_iadd hx hb d_Ref_step_99 ?_
      refine lv_istore (lv' := [(8, .int (p3 + (1 : Int32))), (7, .int (0 : Int32)), (6, .int (D_told (((D_starts p1.toNatClampNeg) + p2) - (1 : Int32)).toNatClampNeg)), (5, .int ((60 : Int32) * (((D_starts p1.toNatClampNeg) + p1) + p2))), (0, .ref a_D), (1, .int p1), (2, .int p2), (3, .int p3), (4, .int p4)]) hx hb d_Ref_step_100 hl (by decide +kernel) rfl (fun ls hl => ?_)
      obtain ⟨x7, hx7, hf⟩ := x_bd hf
      refine w_Ref_step_L102 n (D_told (((D_starts p1.toNatClampNeg) + p2) - (1 : Int32)).toNatClampNeg) ((60 : Int32) * (((D_starts p1.toNatClampNeg) + p1) + p2)) p4 D_symbols D_sorts D_rules D_isOpen D_all D_length D_isFound D_foundLimit D_nodes D_types D_sortOf D_starts D_told D_row D_many D_ways hx hb hml hown hts hK hA n (p3 + (1 : Int32)) (0 : Int32) x7 _ _ ls hx7 hP hD hS (lv_sub hl [0, 1, 2, 3, 4, 8] rfl) (fun H locs ls hP hD hS hl => ?_)
      refine lv_aload_n hx hb d_Ref_step_163 rfl (lv_at hl 4 rfl) ?_
      refine va_get (D := (dC, dI)) (ci := 6) (v := .ref a_D_ways) (C := "SyntaxTreesModel") (T := F_Ref) (N := 28) hx hb hts (fun w h => List.mem_cons_of_mem _ (in_Ref w h)) hown hK.1 hP 0 rfl rfl 13 (by decide +kernel) (hts _ (List.mem_cons_of_mem _ m_520)) (fun _ h9 => h9) rfl d_Ref_step_164 ?_
      refine lv_iload hx hb d_Ref_step_167 (lv_at hl 3 rfl) ?_
      refine lv_iload hx hb d_Ref_step_169 (lv_at hl 5 rfl) ?_
      refine lv_iadd hx hb d_Ref_step_171 ?_
      refine lv_iload hx hb d_Ref_step_172 (lv_at hl 1 rfl) ?_
      obtain ⟨x8, hx8, hf⟩ := x_bd hf
      refine x_rdiS (As := [.int x7.2]) (rest := [.int (((60 : Int32) * (((D_starts p1.toNatClampNeg) + p1) + p2)) + p4), .ref a_D_ways]) (wc := []) ⟨hx, hb, hml, hown, hts⟩ (c_Ref_capped l dC dI cI cJ cB x7.2 n x8 hx8) (cwS 1 hts (x_gS m_623 m_624 m_48 m_625) rfl rfl rfl hd_Ref_capped ⟨Nat.le_of_ble_eq_true rfl, Nat.le_of_ble_eq_true rfl⟩) hK hP [] rfl rfl hl.1 rfl (Nat.le_of_ble_eq_true rfl) d_Ref_step_174 ⟨Nat.le_of_ble_eq_true rfl, Nat.le_of_ble_eq_true rfl⟩ ?_
      refine lv_i2b hx hb d_Ref_step_177 rfl ?_
      obtain ⟨h9, hf⟩ := x_gd hf
      refine x_bast (w1 := [(a_D, .inr (6, [.int D_symbols, .ref a_D_types, .ref a_D_sortOf, .int D_sorts, .int D_rules, .int D_isOpen, .ref a_D_makes, .ref a_D_starts, .ref a_D_told, .int D_all, .ref a_D_row, .int D_length, .ref a_D_many, .ref a_D_ways, .ref a_D_base, .int D_isFound, .int D_foundLimit, .int D_nodes, .ref a_D_ruleOf, .ref a_D_sortAt, .ref a_D_from, .ref a_D_upTo, .ref a_D_firsts, .ref a_D_parts, .ref a_D_variables, .ref a_D_order, .ref a_D_pile, .ref a_D_next])), (a_D_types, .inl (cI, 1000, .inl D_types)), (a_D_sortOf, .inl (cI, 1000, .inl D_sortOf)), (a_D_starts, .inl (cI, 1501, .inl D_starts)), (a_D_told, .inl (cI, 30000, .inl D_told)), (a_D_row, .inl (cI, 59, .inl D_row)), (a_D_many, .inl (cB, 360000, .inl D_many)), (a_D_ways, .inl (cB, 1890100, .inl (upd D_ways (((60 : Int32) * (((D_starts p1.toNatClampNeg) + p1) + p2)) + p4).toNatClampNeg (vp_nar .byte (x8.toInt8.toInt32)))))]) hx hb hK.1 hP hD hS 7 2 rfl rfl h9 d_Ref_step_178 rfl (fun H locs hP hD hS => ?_)
      cases hf
      subst hQ
      exact W.vret hx hb hr (fun t ht _ => ⟨⟨(), rfl, trivial, by rw [ht]; exact hP, hD⟩, hS.F ht⟩) hS.2.2 d_Ref_step_179
  · have hf := x_pos c5 hf
    refine lv_aload_n hx hb d_Ref_step_43 rfl (lv_at hl 2 rfl) ?_
    refine va_get (D := (dC, dI)) (ci := 6) (v := .ref a_D_ways) (C := "SyntaxTreesModel") (T := F_Ref) (N := 28) hx hb hts (fun w h => List.mem_cons_of_mem _ (in_Ref w h)) hown hK.1 hP 0 rfl rfl 13 (by decide +kernel) (hts _ (List.mem_cons_of_mem _ m_520)) (fun _ h9 => h9) rfl d_Ref_step_44 ?_
    refine lv_iload hx hb d_Ref_step_47 (lv_at hl 1 rfl) ?_
    refine lv_iload hx hb d_Ref_step_49 (lv_at hl 6 rfl) ?_
    refine lv_iadd hx hb d_Ref_step_51 ?_
    refine lv_aload_n hx hb d_Ref_step_52 rfl (lv_at hl 2 rfl) ?_
    refine va_get (D := (dC, dI)) (ci := 6) (v := .ref a_D_row) (C := "SyntaxTreesModel") (T := F_Ref) (N := 28) hx hb hts (fun w h => List.mem_cons_of_mem _ (in_Ref w h)) hown hK.1 hP 0 rfl rfl 10 (by decide +kernel) (hts _ (List.mem_cons_of_mem _ m_517)) (fun _ h9 => h9) rfl d_Ref_step_53 ?_
    refine lv_iload hx hb d_Ref_step_56 (lv_at hl 6 rfl) ?_
    refine lv_iconst (v := (1 : Int32)) hx hb d_Ref_step_58 (by decide +kernel) ?_
    refine lv_isub hx hb d_Ref_step_59 ?_
    obtain ⟨h10, hf⟩ := x_gd hf
    refine va_iald hx hb hK.1 hP 5 0 rfl rfl h10 d_Ref_step_60 ?_
    refine lv_iload hx hb d_Ref_step_61 (lv_at hl 0 rfl) ?_
    refine lv_icmp_ne (tgt := 84) hx hb d_Ref_step_63 (by decide +kernel) (fun c11 => ?_) (fun c11 => ?_)
    · have hf := x_neg c11 hf
      refine lv_iconst (v := (0 : Int32)) hx hb d_Ref_step_84 (by decide +kernel) ?_
      obtain ⟨h12, hf⟩ := x_gd hf
      refine x_bast (w1 := [(a_D, .inr (6, [.int D_symbols, .ref a_D_types, .ref a_D_sortOf, .int D_sorts, .int D_rules, .int D_isOpen, .ref a_D_makes, .ref a_D_starts, .ref a_D_told, .int D_all, .ref a_D_row, .int D_length, .ref a_D_many, .ref a_D_ways, .ref a_D_base, .int D_isFound, .int D_foundLimit, .int D_nodes, .ref a_D_ruleOf, .ref a_D_sortAt, .ref a_D_from, .ref a_D_upTo, .ref a_D_firsts, .ref a_D_parts, .ref a_D_variables, .ref a_D_order, .ref a_D_pile, .ref a_D_next])), (a_D_types, .inl (cI, 1000, .inl D_types)), (a_D_sortOf, .inl (cI, 1000, .inl D_sortOf)), (a_D_starts, .inl (cI, 1501, .inl D_starts)), (a_D_told, .inl (cI, 30000, .inl D_told)), (a_D_row, .inl (cI, 59, .inl D_row)), (a_D_many, .inl (cB, 360000, .inl D_many)), (a_D_ways, .inl (cB, 1890100, .inl (upd D_ways (((60 : Int32) * (((D_starts p1.toNatClampNeg) + p1) + p2)) + p4).toNatClampNeg (vp_nar .byte (0 : Int32)))))]) hx hb hK.1 hP hD hS 7 2 rfl rfl h12 d_Ref_step_85 rfl (fun H locs hP hD hS => ?_)
      refine lv_goto (tgt := 179) hx hb d_Ref_step_86 (by decide +kernel) ?_
      cases hf
      subst hQ
      exact W.vret hx hb hr (fun t ht _ => ⟨⟨(), rfl, trivial, by rw [ht]; exact hP, hD⟩, hS.F ht⟩) hS.2.2 d_Ref_step_179
    · have hf := x_pos c11 hf
      refine lv_aload_n hx hb d_Ref_step_66 rfl (lv_at hl 2 rfl) ?_
      refine va_get (D := (dC, dI)) (ci := 6) (v := .ref a_D_ways) (C := "SyntaxTreesModel") (T := F_Ref) (N := 28) hx hb hts (fun w h => List.mem_cons_of_mem _ (in_Ref w h)) hown hK.1 hP 0 rfl rfl 13 (by decide +kernel) (hts _ (List.mem_cons_of_mem _ m_520)) (fun _ h9 => h9) rfl d_Ref_step_67 ?_
      refine lv_iload hx hb d_Ref_step_70 (lv_at hl 1 rfl) ?_
      refine lv_bipush (v := (60 : Int32)) hx hb d_Ref_step_72 (by decide +kernel) ?_
      refine lv_isub hx hb d_Ref_step_74 ?_
      refine lv_iload hx hb d_Ref_step_75 (lv_at hl 6 rfl) ?_
      refine lv_iadd hx hb d_Ref_step_77 ?_
      refine lv_iconst (v := (1 : Int32)) hx hb d_Ref_step_78 (by decide +kernel) ?_
      refine lv_isub hx hb d_Ref_step_79 ?_
      obtain ⟨h13, hf⟩ := x_gd hf
      refine va_bald hx hb hK.1 hP 7 2 rfl rfl h13 d_Ref_step_80 ?_
      refine lv_goto (tgt := 85) hx hb d_Ref_step_81 (by decide +kernel) ?_
      obtain ⟨h14, hf⟩ := x_gd hf
      refine x_bast (w1 := [(a_D, .inr (6, [.int D_symbols, .ref a_D_types, .ref a_D_sortOf, .int D_sorts, .int D_rules, .int D_isOpen, .ref a_D_makes, .ref a_D_starts, .ref a_D_told, .int D_all, .ref a_D_row, .int D_length, .ref a_D_many, .ref a_D_ways, .ref a_D_base, .int D_isFound, .int D_foundLimit, .int D_nodes, .ref a_D_ruleOf, .ref a_D_sortAt, .ref a_D_from, .ref a_D_upTo, .ref a_D_firsts, .ref a_D_parts, .ref a_D_variables, .ref a_D_order, .ref a_D_pile, .ref a_D_next])), (a_D_types, .inl (cI, 1000, .inl D_types)), (a_D_sortOf, .inl (cI, 1000, .inl D_sortOf)), (a_D_starts, .inl (cI, 1501, .inl D_starts)), (a_D_told, .inl (cI, 30000, .inl D_told)), (a_D_row, .inl (cI, 59, .inl D_row)), (a_D_many, .inl (cB, 360000, .inl D_many)), (a_D_ways, .inl (cB, 1890100, .inl (upd D_ways (((60 : Int32) * (((D_starts p1.toNatClampNeg) + p1) + p2)) + p4).toNatClampNeg (vp_nar .byte (D_ways (((((60 : Int32) * (((D_starts p1.toNatClampNeg) + p1) + p2)) - (60 : Int32)) + p4) - (1 : Int32)).toNatClampNeg)))))]) hx hb hK.1 hP hD hS 7 2 rfl rfl h14 d_Ref_step_85 rfl (fun H locs hP hD hS => ?_)
      refine lv_goto (tgt := 179) hx hb d_Ref_step_86 (by decide +kernel) ?_
      cases hf
      subst hQ
      exact W.vret hx hb hr (fun t ht _ => ⟨⟨(), rfl, trivial, by rw [ht]; exact hP, hD⟩, hS.F ht⟩) hS.2.2 d_Ref_step_179
set_option maxHeartbeats 4000000 in
set_option maxRecDepth 100000 in
theorem w_Ref_unite_L3 {p : Program} {l : Launch} {e : Env} {s : State} {m : MethodId} {args : Array Value} {below : List Frame} {meth : Method} {c : Code} {dC : Nat → ClassId} {dI : Nat → Nat → Nat} {cI cJ cB : ClassId} {a_D a_D_types a_D_sortOf a_D_makes a_D_starts a_D_told a_D_row a_D_many a_D_ways a_D_base a_D_ruleOf a_D_sortAt a_D_from a_D_upTo a_D_firsts a_D_parts a_D_variables a_D_order a_D_pile a_D_next : Nat} {A : Nat → Prop} {Q : State → Prop} (n : Nat) (v1 : Int32) (v2 : Int32) (v3 : Int32) (D_symbols : Int32) (D_sorts : Int32) (D_rules : Int32) (D_isOpen : Int32) (D_all : Int32) (D_length : Int32) (D_isFound : Int32) (D_foundLimit : Int32) (D_nodes : Int32) (D_types : Nat → Int32) (D_sortOf : Nat → Int32) (D_makes : Nat → Int32) (D_starts : Nat → Int32) (D_told : Nat → Int32) (D_base : Nat → Int32) (D_next : Nat → Int32) (hx : p.tables.exec = Jvm.exec) (hb : c.code = b_Ref_unite) (hml : c.maxLocals = 7) (hown : s.vm.findClass "SyntaxTreesModel" = some m.cls) (hts : ∀ w ∈ w_Ref_unite, w.before args s = true) (hK : x_K (dC, dI) [(cI, .int), (cJ, .long), (cB, .byte)] s) (hA : ∀ q, s.heap.size ≤ q → A q) : ∀ (k : Nat) (v4 : Int32) (D_many : Nat → Int32) (o : Int32 × (Nat → Int32)) (H : Heap) (locs : List Loc) (ls : Array Slot), f_Ref_unite_L3 n v1 v2 D_sorts D_base k v4 D_many = some o → va_P (dC, dI) vwCl [(a_D, .inr (6, [.int D_symbols, .ref a_D_types, .ref a_D_sortOf, .int D_sorts, .int D_rules, .int D_isOpen, .ref a_D_makes, .ref a_D_starts, .ref a_D_told, .int D_all, .ref a_D_row, .int D_length, .ref a_D_many, .ref a_D_ways, .ref a_D_base, .int D_isFound, .int D_foundLimit, .int D_nodes, .ref a_D_ruleOf, .ref a_D_sortAt, .ref a_D_from, .ref a_D_upTo, .ref a_D_firsts, .ref a_D_parts, .ref a_D_variables, .ref a_D_order, .ref a_D_pile, .ref a_D_next])), (a_D_types, .inl (cI, 1000, .inl D_types)), (a_D_sortOf, .inl (cI, 1000, .inl D_sortOf)), (a_D_makes, .inl (cI, 1500, .inl D_makes)), (a_D_starts, .inl (cI, 1501, .inl D_starts)), (a_D_told, .inl (cI, 30000, .inl D_told)), (a_D_many, .inl (cB, 360000, .inl D_many)), (a_D_base, .inl (cI, 100, .inl D_base)), (a_D_next, .inl (cI, 12000, .inl D_next))] H → va_D A [(a_D, .inr (6, [.int D_symbols, .ref a_D_types, .ref a_D_sortOf, .int D_sorts, .int D_rules, .int D_isOpen, .ref a_D_makes, .ref a_D_starts, .ref a_D_told, .int D_all, .ref a_D_row, .int D_length, .ref a_D_many, .ref a_D_ways, .ref a_D_base, .int D_isFound, .int D_foundLimit, .int D_nodes, .ref a_D_ruleOf, .ref a_D_sortAt, .ref a_D_from, .ref a_D_upTo, .ref a_D_firsts, .ref a_D_parts, .ref a_D_variables, .ref a_D_order, .ref a_D_pile, .ref a_D_next])), (a_D_types, .inl (cI, 1000, .inl D_types)), (a_D_sortOf, .inl (cI, 1000, .inl D_sortOf)), (a_D_makes, .inl (cI, 1500, .inl D_makes)), (a_D_starts, .inl (cI, 1501, .inl D_starts)), (a_D_told, .inl (cI, 30000, .inl D_told)), (a_D_many, .inl (cB, 360000, .inl D_many)), (a_D_base, .inl (cI, 100, .inl D_base)), (a_D_next, .inl (cI, 12000, .inl D_next))] → va_S A s.heap H locs → lv_has ls 7 [(4, .int v4), (0, .ref a_D), (1, .int v1), (2, .int v2), (3, .int v3)] → (∀ (H : Heap) (locs : List Loc) (ls : Array Slot), va_P (dC, dI) vwCl [(a_D, .inr (6, [.int D_symbols, .ref a_D_types, .ref a_D_sortOf, .int D_sorts, .int D_rules, .int D_isOpen, .ref a_D_makes, .ref a_D_starts, .ref a_D_told, .int D_all, .ref a_D_row, .int D_length, .ref a_D_many, .ref a_D_ways, .ref a_D_base, .int D_isFound, .int D_foundLimit, .int D_nodes, .ref a_D_ruleOf, .ref a_D_sortAt, .ref a_D_from, .ref a_D_upTo, .ref a_D_firsts, .ref a_D_parts, .ref a_D_variables, .ref a_D_order, .ref a_D_pile, .ref a_D_next])), (a_D_types, .inl (cI, 1000, .inl D_types)), (a_D_sortOf, .inl (cI, 1000, .inl D_sortOf)), (a_D_makes, .inl (cI, 1500, .inl D_makes)), (a_D_starts, .inl (cI, 1501, .inl D_starts)), (a_D_told, .inl (cI, 30000, .inl D_told)), (a_D_many, .inl (cB, 360000, .inl o.2)), (a_D_base, .inl (cI, 100, .inl D_base)), (a_D_next, .inl (cI, 12000, .inl D_next))] H → va_D A [(a_D, .inr (6, [.int D_symbols, .ref a_D_types, .ref a_D_sortOf, .int D_sorts, .int D_rules, .int D_isOpen, .ref a_D_makes, .ref a_D_starts, .ref a_D_told, .int D_all, .ref a_D_row, .int D_length, .ref a_D_many, .ref a_D_ways, .ref a_D_base, .int D_isFound, .int D_foundLimit, .int D_nodes, .ref a_D_ruleOf, .ref a_D_sortAt, .ref a_D_from, .ref a_D_upTo, .ref a_D_firsts, .ref a_D_parts, .ref a_D_variables, .ref a_D_order, .ref a_D_pile, .ref a_D_next])), (a_D_types, .inl (cI, 1000, .inl D_types)), (a_D_sortOf, .inl (cI, 1000, .inl D_sortOf)), (a_D_makes, .inl (cI, 1500, .inl D_makes)), (a_D_starts, .inl (cI, 1501, .inl D_starts)), (a_D_told, .inl (cI, 30000, .inl D_told)), (a_D_many, .inl (cB, 360000, .inl o.2)), (a_D_base, .inl (cI, 100, .inl D_base)), (a_D_next, .inl (cI, 12000, .inl D_next))] → va_S A s.heap H locs → lv_has ls 7 [(4, .int o.1), (0, .ref a_D), (1, .int v1), (2, .int v2), (3, .int v3)] → W p l e ({ frames := 1, cells := 0, slots := 0, locals := 23 }) s m args below meth c H locs 0 0 Q (F0 m 44 ls [])) → W p l e ({ frames := 1, cells := 0, slots := 0, locals := 23 }) s m args below meth c H locs 0 0 Q (F0 m 3 ls []) := by
  intro k
  induction k with
  | zero =>
    intro v4 D_many o H locs ls hf
    exact absurd hf (by simp [f_Ref_unite_L3])
  | succ k ih =>
    intro v4 D_many o H locs ls hf hP hD hS hl kk
    rw [f_Ref_unite_L3] at hf
    refine lv_iload hx hb d_Ref_unite_3 (lv_at hl 0 rfl) ?_
    refine lv_aload_n hx hb d_Ref_unite_5 rfl (lv_at hl 1 rfl) ?_
    refine va_get (D := (dC, dI)) (ci := 6) (v := .int D_sorts) (C := "SyntaxTreesModel") (T := F_Ref) (N := 28) hx hb hts (fun w h => List.mem_cons_of_mem _ (in_Ref w h)) hown hK.1 hP 0 rfl rfl 3 (by decide +kernel) (hts _ (List.mem_cons_of_mem _ m_510)) (fun _ h9 => h9) rfl d_Ref_unite_6 ?_
    refine lv_icmp_ge (tgt := 44) hx hb d_Ref_unite_9 (by decide +kernel) (fun c1 => ?_) (fun c1 => ?_)
    · have hf := x_pos c1 hf
      cases hf
      exact kk _ _ ls hP hD hS (lv_sub hl [0, 1, 2, 3, 4] rfl)
    · have hf := x_neg c1 hf
      refine lv_aload_n hx hb d_Ref_unite_12 rfl (lv_at hl 1 rfl) ?_
      refine va_get (D := (dC, dI)) (ci := 6) (v := .ref a_D_many) (C := "SyntaxTreesModel") (T := F_Ref) (N := 28) hx hb hts (fun w h => List.mem_cons_of_mem _ (in_Ref w h)) hown hK.1 hP 0 rfl rfl 12 (by decide +kernel) (hts _ (List.mem_cons_of_mem _ m_519)) (fun _ h9 => h9) rfl d_Ref_unite_13 ?_
      refine lv_sipush (v := (3600 : Int32)) hx hb d_Ref_unite_16 (by decide +kernel) ?_
      refine lv_iload hx hb d_Ref_unite_19 (lv_at hl 0 rfl) ?_
      refine lv_imul hx hb d_Ref_unite_21 ?_
      refine lv_bipush (v := (60 : Int32)) hx hb d_Ref_unite_22 (by decide +kernel) ?_
      refine lv_iload_n hx hb d_Ref_unite_24 rfl (lv_at hl 2 rfl) ?_
      refine lv_imul hx hb d_Ref_unite_25 ?_
      refine lv_iadd hx hb d_Ref_unite_26 ?_
      refine lv_iload_n hx hb d_Ref_unite_27 rfl (lv_at hl 3 rfl) ?_
      refine lv_iadd hx hb d_Ref_unite_28 ?_
      refine lv_aload_n hx hb d_Ref_unite_29 rfl (lv_at hl 1 rfl) ?_
      refine va_get (D := (dC, dI)) (ci := 6) (v := .ref a_D_base) (C := "SyntaxTreesModel") (T := F_Ref) (N := 28) hx hb hts (fun w h => List.mem_cons_of_mem _ (in_Ref w h)) hown hK.1 hP 0 rfl rfl 14 (by decide +kernel) (hts _ (List.mem_cons_of_mem _ m_521)) (fun _ h9 => h9) rfl d_Ref_unite_30 ?_
      refine lv_iload hx hb d_Ref_unite_33 (lv_at hl 0 rfl) ?_
      obtain ⟨h2, hf⟩ := x_gd hf
      refine va_iald hx hb hK.1 hP 7 0 rfl rfl h2 d_Ref_unite_35 ?_
      refine lv_i2b hx hb d_Ref_unite_36 rfl ?_
      obtain ⟨h3, hf⟩ := x_gd hf
      refine x_bast (w1 := [(a_D, .inr (6, [.int D_symbols, .ref a_D_types, .ref a_D_sortOf, .int D_sorts, .int D_rules, .int D_isOpen, .ref a_D_makes, .ref a_D_starts, .ref a_D_told, .int D_all, .ref a_D_row, .int D_length, .ref a_D_many, .ref a_D_ways, .ref a_D_base, .int D_isFound, .int D_foundLimit, .int D_nodes, .ref a_D_ruleOf, .ref a_D_sortAt, .ref a_D_from, .ref a_D_upTo, .ref a_D_firsts, .ref a_D_parts, .ref a_D_variables, .ref a_D_order, .ref a_D_pile, .ref a_D_next])), (a_D_types, .inl (cI, 1000, .inl D_types)), (a_D_sortOf, .inl (cI, 1000, .inl D_sortOf)), (a_D_makes, .inl (cI, 1500, .inl D_makes)), (a_D_starts, .inl (cI, 1501, .inl D_starts)), (a_D_told, .inl (cI, 30000, .inl D_told)), (a_D_many, .inl (cB, 360000, .inl (upd D_many ((((3600 : Int32) * v4) + ((60 : Int32) * v1)) + v2).toNatClampNeg (vp_nar .byte ((D_base v4.toNatClampNeg).toInt8.toInt32))))), (a_D_base, .inl (cI, 100, .inl D_base)), (a_D_next, .inl (cI, 12000, .inl D_next))]) hx hb hK.1 hP hD hS 6 2 rfl rfl h3 d_Ref_unite_37 rfl (fun H locs hP hD hS => ?_)
      refine lv_iinc (v := (v4 + (1 : Int32))) (lv' := [(4, .int (v4 + (1 : Int32))), (0, .ref a_D), (1, .int v1), (2, .int v2), (3, .int v3)]) hx hb d_Ref_unite_38 hl (k := 0) rfl rfl (by decide +kernel) rfl (fun ls hl => ?_)
      refine lv_goto (tgt := 3) hx hb d_Ref_unite_41 (by decide +kernel) ?_
      exact ih (v4 + (1 : Int32)) (upd D_many ((((3600 : Int32) * v4) + ((60 : Int32) * v1)) + v2).toNatClampNeg (vp_nar .byte ((D_base v4.toNatClampNeg).toInt8.toInt32))) o _ _ ls hf hP hD hS (lv_sub hl [0, 1, 2, 3, 4] rfl) kk
set_option maxHeartbeats 4000000 in
set_option maxRecDepth 100000 in
theorem w_Ref_unite_L58 {p : Program} {l : Launch} {e : Env} {s : State} {m : MethodId} {args : Array Value} {below : List Frame} {meth : Method} {c : Code} {dC : Nat → ClassId} {dI : Nat → Nat → Nat} {cI cJ cB : ClassId} {a_D a_D_types a_D_sortOf a_D_makes a_D_starts a_D_told a_D_row a_D_many a_D_ways a_D_base a_D_ruleOf a_D_sortAt a_D_from a_D_upTo a_D_firsts a_D_parts a_D_variables a_D_order a_D_pile a_D_next : Nat} {A : Nat → Prop} {Q : State → Prop} (n : Nat) (v4 : Int32) (v1 : Int32) (v2 : Int32) (v3 : Int32) (D_symbols : Int32) (D_sorts : Int32) (D_rules : Int32) (D_isOpen : Int32) (D_all : Int32) (D_length : Int32) (D_isFound : Int32) (D_foundLimit : Int32) (D_nodes : Int32) (D_types : Nat → Int32) (D_sortOf : Nat → Int32) (D_makes : Nat → Int32) (D_starts : Nat → Int32) (D_told : Nat → Int32) (D_many : Nat → Int32) (D_base : Nat → Int32) (hx : p.tables.exec = Jvm.exec) (hb : c.code = b_Ref_unite) (hml : c.maxLocals = 7) (hown : s.vm.findClass "SyntaxTreesModel" = some m.cls) (hts : ∀ w ∈ w_Ref_unite, w.before args s = true) (hK : x_K (dC, dI) [(cI, .int), (cJ, .long), (cB, .byte)] s) (hA : ∀ q, s.heap.size ≤ q → A q) : ∀ (k : Nat) (v5 : Int32) (D_next : Nat → Int32) (o : Int32 × (Nat → Int32)) (H : Heap) (locs : List Loc) (ls : Array Slot), f_Ref_unite_L58 n D_sorts D_base k v5 D_next = some o → va_P (dC, dI) vwCl [(a_D, .inr (6, [.int D_symbols, .ref a_D_types, .ref a_D_sortOf, .int D_sorts, .int D_rules, .int D_isOpen, .ref a_D_makes, .ref a_D_starts, .ref a_D_told, .int D_all, .ref a_D_row, .int D_length, .ref a_D_many, .ref a_D_ways, .ref a_D_base, .int D_isFound, .int D_foundLimit, .int D_nodes, .ref a_D_ruleOf, .ref a_D_sortAt, .ref a_D_from, .ref a_D_upTo, .ref a_D_firsts, .ref a_D_parts, .ref a_D_variables, .ref a_D_order, .ref a_D_pile, .ref a_D_next])), (a_D_types, .inl (cI, 1000, .inl D_types)), (a_D_sortOf, .inl (cI, 1000, .inl D_sortOf)), (a_D_makes, .inl (cI, 1500, .inl D_makes)), (a_D_starts, .inl (cI, 1501, .inl D_starts)), (a_D_told, .inl (cI, 30000, .inl D_told)), (a_D_many, .inl (cB, 360000, .inl D_many)), (a_D_base, .inl (cI, 100, .inl D_base)), (a_D_next, .inl (cI, 12000, .inl D_next))] H → va_D A [(a_D, .inr (6, [.int D_symbols, .ref a_D_types, .ref a_D_sortOf, .int D_sorts, .int D_rules, .int D_isOpen, .ref a_D_makes, .ref a_D_starts, .ref a_D_told, .int D_all, .ref a_D_row, .int D_length, .ref a_D_many, .ref a_D_ways, .ref a_D_base, .int D_isFound, .int D_foundLimit, .int D_nodes, .ref a_D_ruleOf, .ref a_D_sortAt, .ref a_D_from, .ref a_D_upTo, .ref a_D_firsts, .ref a_D_parts, .ref a_D_variables, .ref a_D_order, .ref a_D_pile, .ref a_D_next])), (a_D_types, .inl (cI, 1000, .inl D_types)), (a_D_sortOf, .inl (cI, 1000, .inl D_sortOf)), (a_D_makes, .inl (cI, 1500, .inl D_makes)), (a_D_starts, .inl (cI, 1501, .inl D_starts)), (a_D_told, .inl (cI, 30000, .inl D_told)), (a_D_many, .inl (cB, 360000, .inl D_many)), (a_D_base, .inl (cI, 100, .inl D_base)), (a_D_next, .inl (cI, 12000, .inl D_next))] → va_S A s.heap H locs → lv_has ls 7 [(5, .int v5), (4, .int v4), (0, .ref a_D), (1, .int v1), (2, .int v2), (3, .int v3)] → (∀ (H : Heap) (locs : List Loc) (ls : Array Slot), va_P (dC, dI) vwCl [(a_D, .inr (6, [.int D_symbols, .ref a_D_types, .ref a_D_sortOf, .int D_sorts, .int D_rules, .int D_isOpen, .ref a_D_makes, .ref a_D_starts, .ref a_D_told, .int D_all, .ref a_D_row, .int D_length, .ref a_D_many, .ref a_D_ways, .ref a_D_base, .int D_isFound, .int D_foundLimit, .int D_nodes, .ref a_D_ruleOf, .ref a_D_sortAt, .ref a_D_from, .ref a_D_upTo, .ref a_D_firsts, .ref a_D_parts, .ref a_D_variables, .ref a_D_order, .ref a_D_pile, .ref a_D_next])), (a_D_types, .inl (cI, 1000, .inl D_types)), (a_D_sortOf, .inl (cI, 1000, .inl D_sortOf)), (a_D_makes, .inl (cI, 1500, .inl D_makes)), (a_D_starts, .inl (cI, 1501, .inl D_starts)), (a_D_told, .inl (cI, 30000, .inl D_told)), (a_D_many, .inl (cB, 360000, .inl D_many)), (a_D_base, .inl (cI, 100, .inl D_base)), (a_D_next, .inl (cI, 12000, .inl o.2))] H → va_D A [(a_D, .inr (6, [.int D_symbols, .ref a_D_types, .ref a_D_sortOf, .int D_sorts, .int D_rules, .int D_isOpen, .ref a_D_makes, .ref a_D_starts, .ref a_D_told, .int D_all, .ref a_D_row, .int D_length, .ref a_D_many, .ref a_D_ways, .ref a_D_base, .int D_isFound, .int D_foundLimit, .int D_nodes, .ref a_D_ruleOf, .ref a_D_sortAt, .ref a_D_from, .ref a_D_upTo, .ref a_D_firsts, .ref a_D_parts, .ref a_D_variables, .ref a_D_order, .ref a_D_pile, .ref a_D_next])), (a_D_types, .inl (cI, 1000, .inl D_types)), (a_D_sortOf, .inl (cI, 1000, .inl D_sortOf)), (a_D_makes, .inl (cI, 1500, .inl D_makes)), (a_D_starts, .inl (cI, 1501, .inl D_starts)), (a_D_told, .inl (cI, 30000, .inl D_told)), (a_D_many, .inl (cB, 360000, .inl D_many)), (a_D_base, .inl (cI, 100, .inl D_base)), (a_D_next, .inl (cI, 12000, .inl o.2))] → va_S A s.heap H locs → lv_has ls 7 [(5, .int o.1), (4, .int v4), (0, .ref a_D), (1, .int v1), (2, .int v2), (3, .int v3)] → W p l e ({ frames := 1, cells := 0, slots := 0, locals := 23 }) s m args below meth c H locs 0 0 Q (F0 m 87 ls [])) → W p l e ({ frames := 1, cells := 0, slots := 0, locals := 23 }) s m args below meth c H locs 0 0 Q (F0 m 58 ls []) := by
  intro k
  induction k with
  | zero =>
    intro v5 D_next o H locs ls hf
    exact absurd hf (by simp [f_Ref_unite_L58])
  | succ k ih =>
    intro v5 D_next o H locs ls hf hP hD hS hl kk
    rw [f_Ref_unite_L58] at hf
    refine lv_iload hx hb d_Ref_unite_58 (lv_at hl 0 rfl) ?_
    refine lv_aload_n hx hb d_Ref_unite_60 rfl (lv_at hl 2 rfl) ?_
    refine va_get (D := (dC, dI)) (ci := 6) (v := .int D_sorts) (C := "SyntaxTreesModel") (T := F_Ref) (N := 28) hx hb hts (fun w h => List.mem_cons_of_mem _ (in_Ref w h)) hown hK.1 hP 0 rfl rfl 3 (by decide +kernel) (hts _ (List.mem_cons_of_mem _ m_510)) (fun _ h9 => h9) rfl d_Ref_unite_61 ?_
    refine lv_icmp_ge (tgt := 87) hx hb d_Ref_unite_64 (by decide +kernel) (fun c1 => ?_) (fun c1 => ?_)
    · have hf := x_pos c1 hf
      cases hf
      exact kk _ _ ls hP hD hS (lv_sub hl [0, 1, 2, 3, 4, 5] rfl)
    · have hf := x_neg c1 hf
      refine lv_aload_n hx hb d_Ref_unite_67 rfl (lv_at hl 2 rfl) ?_
      refine va_get (D := (dC, dI)) (ci := 6) (v := .ref a_D_next) (C := "SyntaxTreesModel") (T := F_Ref) (N := 28) hx hb hts (fun w h => List.mem_cons_of_mem _ (in_Ref w h)) hown hK.1 hP 0 rfl rfl 27 (by decide +kernel) (hts _ (List.mem_cons_of_mem _ m_534)) (fun _ h9 => h9) rfl d_Ref_unite_68 ?_
      refine lv_iload hx hb d_Ref_unite_71 (lv_at hl 0 rfl) ?_
      refine lv_aload_n hx hb d_Ref_unite_73 rfl (lv_at hl 2 rfl) ?_
      refine va_get (D := (dC, dI)) (ci := 6) (v := .ref a_D_base) (C := "SyntaxTreesModel") (T := F_Ref) (N := 28) hx hb hts (fun w h => List.mem_cons_of_mem _ (in_Ref w h)) hown hK.1 hP 0 rfl rfl 14 (by decide +kernel) (hts _ (List.mem_cons_of_mem _ m_521)) (fun _ h9 => h9) rfl d_Ref_unite_74 ?_
      refine lv_iload hx hb d_Ref_unite_77 (lv_at hl 0 rfl) ?_
      obtain ⟨h2, hf⟩ := x_gd hf
      refine va_iald hx hb hK.1 hP 7 0 rfl rfl h2 d_Ref_unite_79 ?_
      obtain ⟨h3, hf⟩ := x_gd hf
      refine x_iast (w1 := [(a_D, .inr (6, [.int D_symbols, .ref a_D_types, .ref a_D_sortOf, .int D_sorts, .int D_rules, .int D_isOpen, .ref a_D_makes, .ref a_D_starts, .ref a_D_told, .int D_all, .ref a_D_row, .int D_length, .ref a_D_many, .ref a_D_ways, .ref a_D_base, .int D_isFound, .int D_foundLimit, .int D_nodes, .ref a_D_ruleOf, .ref a_D_sortAt, .ref a_D_from, .ref a_D_upTo, .ref a_D_firsts, .ref a_D_parts, .ref a_D_variables, .ref a_D_order, .ref a_D_pile, .ref a_D_next])), (a_D_types, .inl (cI, 1000, .inl D_types)), (a_D_sortOf, .inl (cI, 1000, .inl D_sortOf)), (a_D_makes, .inl (cI, 1500, .inl D_makes)), (a_D_starts, .inl (cI, 1501, .inl D_starts)), (a_D_told, .inl (cI, 30000, .inl D_told)), (a_D_many, .inl (cB, 360000, .inl D_many)), (a_D_base, .inl (cI, 100, .inl D_base)), (a_D_next, .inl (cI, 12000, .inl (upd D_next v5.toNatClampNeg (D_base v5.toNatClampNeg))))]) hx hb hK.1 hP hD hS 8 0 rfl rfl h3 d_Ref_unite_80 rfl (fun H locs hP hD hS => ?_)
      refine lv_iinc (v := (v5 + (1 : Int32))) (lv' := [(5, .int (v5 + (1 : Int32))), (4, .int v4), (0, .ref a_D), (1, .int v1), (2, .int v2), (3, .int v3)]) hx hb d_Ref_unite_81 hl (k := 0) rfl rfl (by decide +kernel) rfl (fun ls hl => ?_)
      refine lv_goto (tgt := 58) hx hb d_Ref_unite_84 (by decide +kernel) ?_
      exact ih (v5 + (1 : Int32)) (upd D_next v5.toNatClampNeg (D_base v5.toNatClampNeg)) o _ _ ls hf hP hD hS (lv_sub hl [0, 1, 2, 3, 4, 5] rfl) kk
set_option maxHeartbeats 4000000 in
set_option maxRecDepth 100000 in
theorem w_Ref_unite_L90 {p : Program} {l : Launch} {e : Env} {s : State} {m : MethodId} {args : Array Value} {below : List Frame} {meth : Method} {c : Code} {dC : Nat → ClassId} {dI : Nat → Nat → Nat} {cI cJ cB : ClassId} {a_D a_D_types a_D_sortOf a_D_makes a_D_starts a_D_told a_D_row a_D_many a_D_ways a_D_base a_D_ruleOf a_D_sortAt a_D_from a_D_upTo a_D_firsts a_D_parts a_D_variables a_D_order a_D_pile a_D_next : Nat} {A : Nat → Prop} {Q : State → Prop} (n : Nat) (v4 : Int32) (v1 : Int32) (v2 : Int32) (v3 : Int32) (D_symbols : Int32) (D_sorts : Int32) (D_rules : Int32) (D_isOpen : Int32) (D_all : Int32) (D_length : Int32) (D_isFound : Int32) (D_foundLimit : Int32) (D_nodes : Int32) (D_types : Nat → Int32) (D_sortOf : Nat → Int32) (D_makes : Nat → Int32) (D_starts : Nat → Int32) (D_told : Nat → Int32) (D_many : Nat → Int32) (D_base : Nat → Int32) (hx : p.tables.exec = Jvm.exec) (hb : c.code = b_Ref_unite) (hml : c.maxLocals = 7) (hown : s.vm.findClass "SyntaxTreesModel" = some m.cls) (hts : ∀ w ∈ w_Ref_unite, w.before args s = true) (hK : x_K (dC, dI) [(cI, .int), (cJ, .long), (cB, .byte)] s) (hA : ∀ q, s.heap.size ≤ q → A q) : ∀ (k : Nat) (v5 : Int32) (D_next : Nat → Int32) (o : Int32 × (Nat → Int32)) (H : Heap) (locs : List Loc) (ls : Array Slot), f_Ref_unite_L90 n v1 v2 v3 D_types D_sortOf D_makes D_starts D_told D_many k v5 D_next = some o → va_P (dC, dI) vwCl [(a_D, .inr (6, [.int D_symbols, .ref a_D_types, .ref a_D_sortOf, .int D_sorts, .int D_rules, .int D_isOpen, .ref a_D_makes, .ref a_D_starts, .ref a_D_told, .int D_all, .ref a_D_row, .int D_length, .ref a_D_many, .ref a_D_ways, .ref a_D_base, .int D_isFound, .int D_foundLimit, .int D_nodes, .ref a_D_ruleOf, .ref a_D_sortAt, .ref a_D_from, .ref a_D_upTo, .ref a_D_firsts, .ref a_D_parts, .ref a_D_variables, .ref a_D_order, .ref a_D_pile, .ref a_D_next])), (a_D_types, .inl (cI, 1000, .inl D_types)), (a_D_sortOf, .inl (cI, 1000, .inl D_sortOf)), (a_D_makes, .inl (cI, 1500, .inl D_makes)), (a_D_starts, .inl (cI, 1501, .inl D_starts)), (a_D_told, .inl (cI, 30000, .inl D_told)), (a_D_many, .inl (cB, 360000, .inl D_many)), (a_D_base, .inl (cI, 100, .inl D_base)), (a_D_next, .inl (cI, 12000, .inl D_next))] H → va_D A [(a_D, .inr (6, [.int D_symbols, .ref a_D_types, .ref a_D_sortOf, .int D_sorts, .int D_rules, .int D_isOpen, .ref a_D_makes, .ref a_D_starts, .ref a_D_told, .int D_all, .ref a_D_row, .int D_length, .ref a_D_many, .ref a_D_ways, .ref a_D_base, .int D_isFound, .int D_foundLimit, .int D_nodes, .ref a_D_ruleOf, .ref a_D_sortAt, .ref a_D_from, .ref a_D_upTo, .ref a_D_firsts, .ref a_D_parts, .ref a_D_variables, .ref a_D_order, .ref a_D_pile, .ref a_D_next])), (a_D_types, .inl (cI, 1000, .inl D_types)), (a_D_sortOf, .inl (cI, 1000, .inl D_sortOf)), (a_D_makes, .inl (cI, 1500, .inl D_makes)), (a_D_starts, .inl (cI, 1501, .inl D_starts)), (a_D_told, .inl (cI, 30000, .inl D_told)), (a_D_many, .inl (cB, 360000, .inl D_many)), (a_D_base, .inl (cI, 100, .inl D_base)), (a_D_next, .inl (cI, 12000, .inl D_next))] → va_S A s.heap H locs → lv_has ls 7 [(5, .int v5), (4, .int v4), (0, .ref a_D), (1, .int v1), (2, .int v2), (3, .int v3)] → (∀ (H : Heap) (locs : List Loc) (ls : Array Slot), va_P (dC, dI) vwCl [(a_D, .inr (6, [.int D_symbols, .ref a_D_types, .ref a_D_sortOf, .int D_sorts, .int D_rules, .int D_isOpen, .ref a_D_makes, .ref a_D_starts, .ref a_D_told, .int D_all, .ref a_D_row, .int D_length, .ref a_D_many, .ref a_D_ways, .ref a_D_base, .int D_isFound, .int D_foundLimit, .int D_nodes, .ref a_D_ruleOf, .ref a_D_sortAt, .ref a_D_from, .ref a_D_upTo, .ref a_D_firsts, .ref a_D_parts, .ref a_D_variables, .ref a_D_order, .ref a_D_pile, .ref a_D_next])), (a_D_types, .inl (cI, 1000, .inl D_types)), (a_D_sortOf, .inl (cI, 1000, .inl D_sortOf)), (a_D_makes, .inl (cI, 1500, .inl D_makes)), (a_D_starts, .inl (cI, 1501, .inl D_starts)), (a_D_told, .inl (cI, 30000, .inl D_told)), (a_D_many, .inl (cB, 360000, .inl D_many)), (a_D_base, .inl (cI, 100, .inl D_base)), (a_D_next, .inl (cI, 12000, .inl o.2))] H → va_D A [(a_D, .inr (6, [.int D_symbols, .ref a_D_types, .ref a_D_sortOf, .int D_sorts, .int D_rules, .int D_isOpen, .ref a_D_makes, .ref a_D_starts, .ref a_D_told, .int D_all, .ref a_D_row, .int D_length, .ref a_D_many, .ref a_D_ways, .ref a_D_base, .int D_isFound, .int D_foundLimit, .int D_nodes, .ref a_D_ruleOf, .ref a_D_sortAt, .ref a_D_from, .ref a_D_upTo, .ref a_D_firsts, .ref a_D_parts, .ref a_D_variables, .ref a_D_order, .ref a_D_pile, .ref a_D_next])), (a_D_types, .inl (cI, 1000, .inl D_types)), (a_D_sortOf, .inl (cI, 1000, .inl D_sortOf)), (a_D_makes, .inl (cI, 1500, .inl D_makes)), (a_D_starts, .inl (cI, 1501, .inl D_starts)), (a_D_told, .inl (cI, 30000, .inl D_told)), (a_D_many, .inl (cB, 360000, .inl D_many)), (a_D_base, .inl (cI, 100, .inl D_base)), (a_D_next, .inl (cI, 12000, .inl o.2))] → va_S A s.heap H locs → lv_has ls 7 [(5, .int o.1), (4, .int v4), (0, .ref a_D), (1, .int v1), (2, .int v2), (3, .int v3)] → W p l e ({ frames := 1, cells := 0, slots := 0, locals := 23 }) s m args below meth c H locs 0 0 Q (F0 m 183 ls [])) → W p l e ({ frames := 1, cells := 0, slots := 0, locals := 23 }) s m args below meth c H locs 0 0 Q (F0 m 90 ls []) := by
  intro k
  induction k with
  | zero =>
    intro v5 D_next o H locs ls hf
    exact absurd hf (by simp [f_Ref_unite_L90])
  | succ k ih =>
    intro v5 D_next o H locs ls hf hP hD hS hl kk
    rw [f_Ref_unite_L90] at hf
    refine lv_iload hx hb d_Ref_unite_90 (lv_at hl 0 rfl) ?_
    refine lv_iload_n hx hb d_Ref_unite_92 rfl (lv_at hl 5 rfl) ?_
    refine lv_icmp_ge (tgt := 183) hx hb d_Ref_unite_93 (by decide +kernel) (fun c1 => ?_) (fun c1 => ?_)
    · have hf := x_pos c1 hf
      cases hf
      exact kk _ _ ls hP hD hS (lv_sub hl [0, 1, 2, 3, 4, 5] rfl)
    · have hf := x_neg c1 hf
      refine lv_aload_n hx hb d_Ref_unite_96 rfl (lv_at hl 2 rfl) ?_
      refine lv_iload hx hb d_Ref_unite_97 (lv_at hl 0 rfl) ?_
      obtain ⟨x2, hx2, hf⟩ := x_bd hf
      refine x_rdiV (As := [.int v5]) (rest := []) (wc := [(a_D, .inr (6, [.int D_symbols, .ref a_D_types, .ref a_D_sortOf, .int D_sorts, .int D_rules, .int D_isOpen, .ref a_D_makes, .ref a_D_starts, .ref a_D_told, .int D_all, .ref a_D_row, .int D_length, .ref a_D_many, .ref a_D_ways, .ref a_D_base, .int D_isFound, .int D_foundLimit, .int D_nodes, .ref a_D_ruleOf, .ref a_D_sortAt, .ref a_D_from, .ref a_D_upTo, .ref a_D_firsts, .ref a_D_parts, .ref a_D_variables, .ref a_D_order, .ref a_D_pile, .ref a_D_next])), (a_D_starts, .inl (cI, 1501, .inl D_starts))]) ⟨hx, hb, hml, hown, hts⟩ (c_Ref_lengthOf l dC dI cI cJ cB a_D a_D_types a_D_sortOf a_D_makes a_D_starts a_D_told a_D_row a_D_many a_D_ways a_D_base a_D_ruleOf a_D_sortAt a_D_from a_D_upTo a_D_firsts a_D_parts a_D_variables a_D_order a_D_pile a_D_next D_symbols D_sorts D_rules D_isOpen D_all D_length D_isFound D_foundLimit D_nodes D_starts v5 n x2 hx2) (cwV 1 hts (x_gV m_611 m_612 m_32 m_48 m_613) rfl rfl rfl hd_Ref_lengthOf ⟨Nat.le_of_ble_eq_true rfl, Nat.le_of_ble_eq_true rfl⟩) hK hP [0, 4] rfl (ci := 6) (q0 := 0) rfl rfl rfl rfl hl.1 rfl (Nat.le_of_ble_eq_true rfl) d_Ref_unite_99 ⟨Nat.le_of_ble_eq_true rfl, Nat.le_of_ble_eq_true rfl⟩ ?_
      refine lv_iconst (v := (1 : Int32)) hx hb d_Ref_unite_102 (by decide +kernel) ?_
      refine lv_icmp_ne (tgt := 177) hx hb d_Ref_unite_103 (by decide +kernel) (fun c3 => ?_) (fun c3 => ?_)
      · have hf := x_neg c3 hf
        refine lv_iinc (v := (v5 + (1 : Int32))) (lv' := [(5, .int (v5 + (1 : Int32))), (4, .int v4), (0, .ref a_D), (1, .int v1), (2, .int v2), (3, .int v3)]) hx hb d_Ref_unite_177 hl (k := 0) rfl rfl (by decide +kernel) rfl (fun ls hl => ?_)
        refine lv_goto (tgt := 90) hx hb d_Ref_unite_180 (by decide +kernel) ?_
        exact ih (v5 + (1 : Int32)) D_next o _ _ ls hf hP hD hS (lv_sub hl [0, 1, 2, 3, 4, 5] rfl) kk
      · have hf := x_pos c3 hf
        refine lv_aload_n hx hb d_Ref_unite_106 rfl (lv_at hl 2 rfl) ?_
        refine va_get (D := (dC, dI)) (ci := 6) (v := .ref a_D_types) (C := "SyntaxTreesModel") (T := F_Ref) (N := 28) hx hb hts (fun w h => List.mem_cons_of_mem _ (in_Ref w h)) hown hK.1 hP 0 rfl rfl 1 (by decide +kernel) (hts _ (List.mem_cons_of_mem _ m_508)) (fun _ h9 => h9) rfl d_Ref_unite_107 ?_
        refine lv_aload_n hx hb d_Ref_unite_110 rfl (lv_at hl 2 rfl) ?_
        refine va_get (D := (dC, dI)) (ci := 6) (v := .ref a_D_told) (C := "SyntaxTreesModel") (T := F_Ref) (N := 28) hx hb hts (fun w h => List.mem_cons_of_mem _ (in_Ref w h)) hown hK.1 hP 0 rfl rfl 8 (by decide +kernel) (hts _ (List.mem_cons_of_mem _ m_515)) (fun _ h9 => h9) rfl d_Ref_unite_111 ?_
        refine lv_aload_n hx hb d_Ref_unite_114 rfl (lv_at hl 2 rfl) ?_
        refine va_get (D := (dC, dI)) (ci := 6) (v := .ref a_D_starts) (C := "SyntaxTreesModel") (T := F_Ref) (N := 28) hx hb hts (fun w h => List.mem_cons_of_mem _ (in_Ref w h)) hown hK.1 hP 0 rfl rfl 7 (by decide +kernel) (hts _ (List.mem_cons_of_mem _ m_514)) (fun _ h9 => h9) rfl d_Ref_unite_115 ?_
        refine lv_iload hx hb d_Ref_unite_118 (lv_at hl 0 rfl) ?_
        obtain ⟨h4, hf⟩ := x_gd hf
        refine va_iald hx hb hK.1 hP 4 0 rfl rfl h4 d_Ref_unite_120 ?_
        obtain ⟨h5, hf⟩ := x_gd hf
        refine va_iald hx hb hK.1 hP 5 0 rfl rfl h5 d_Ref_unite_121 ?_
        obtain ⟨h6, hf⟩ := x_gd hf
        refine va_iald hx hb hK.1 hP 1 0 rfl rfl h6 d_Ref_unite_122 ?_
        refine lv_iconst (v := (-1 : Int32)) hx hb d_Ref_unite_123 (by decide +kernel) ?_
        refine lv_icmp_eq (tgt := 177) hx hb d_Ref_unite_124 (by decide +kernel) (fun c7 => ?_) (fun c7 => ?_)
        · have hf := x_pos c7 hf
          refine lv_iinc (v := (v5 + (1 : Int32))) (lv' := [(5, .int (v5 + (1 : Int32))), (4, .int v4), (0, .ref a_D), (1, .int v1), (2, .int v2), (3, .int v3)]) hx hb d_Ref_unite_177 hl (k := 0) rfl rfl (by decide +kernel) rfl (fun ls hl => ?_)
          refine lv_goto (tgt := 90) hx hb d_Ref_unite_180 (by decide +kernel) ?_
          exact ih (v5 + (1 : Int32)) D_next o _ _ ls hf hP hD hS (lv_sub hl [0, 1, 2, 3, 4, 5] rfl) kk
        · have hf := x_neg c7 hf
          refine lv_aload_n hx hb d_Ref_unite_127 rfl (lv_at hl 2 rfl) ?_
          refine va_get (D := (dC, dI)) (ci := 6) (v := .ref a_D_sortOf) (C := "SyntaxTreesModel") (T := F_Ref) (N := 28) hx hb hts (fun w h => List.mem_cons_of_mem _ (in_Ref w h)) hown hK.1 hP 0 rfl rfl 2 (by decide +kernel) (hts _ (List.mem_cons_of_mem _ m_509)) (fun _ h9 => h9) rfl d_Ref_unite_128 ?_
          refine lv_aload_n hx hb d_Ref_unite_131 rfl (lv_at hl 2 rfl) ?_
          refine va_get (D := (dC, dI)) (ci := 6) (v := .ref a_D_makes) (C := "SyntaxTreesModel") (T := F_Ref) (N := 28) hx hb hts (fun w h => List.mem_cons_of_mem _ (in_Ref w h)) hown hK.1 hP 0 rfl rfl 6 (by decide +kernel) (hts _ (List.mem_cons_of_mem _ m_513)) (fun _ h9 => h9) rfl d_Ref_unite_132 ?_
          refine lv_iload hx hb d_Ref_unite_135 (lv_at hl 0 rfl) ?_
          obtain ⟨h8, hf⟩ := x_gd hf
          refine va_iald hx hb hK.1 hP 3 0 rfl rfl h8 d_Ref_unite_137 ?_
          obtain ⟨h9, hf⟩ := x_gd hf
          refine va_iald hx hb hK.1 hP 2 0 rfl rfl h9 d_Ref_unite_138 ?_
          refine lv_istore (lv' := [(6, .int (D_sortOf (D_makes v5.toNatClampNeg).toNatClampNeg)), (5, .int v5), (4, .int v4), (0, .ref a_D), (1, .int v1), (2, .int v2), (3, .int v3)]) hx hb d_Ref_unite_139 hl (by decide +kernel) rfl (fun ls hl => ?_)
          refine lv_aload_n hx hb d_Ref_unite_141 rfl (lv_at hl 3 rfl) ?_
          refine va_get (D := (dC, dI)) (ci := 6) (v := .ref a_D_next) (C := "SyntaxTreesModel") (T := F_Ref) (N := 28) hx hb hts (fun w h => List.mem_cons_of_mem _ (in_Ref w h)) hown hK.1 hP 0 rfl rfl 27 (by decide +kernel) (hts _ (List.mem_cons_of_mem _ m_534)) (fun _ h9 => h9) rfl d_Ref_unite_142 ?_
          refine lv_iload hx hb d_Ref_unite_145 (lv_at hl 0 rfl) ?_
          refine lv_aload_n hx hb d_Ref_unite_147 rfl (lv_at hl 3 rfl) ?_
          refine va_get (D := (dC, dI)) (ci := 6) (v := .ref a_D_next) (C := "SyntaxTreesModel") (T := F_Ref) (N := 28) hx hb hts (fun w h => List.mem_cons_of_mem _ (in_Ref w h)) hown hK.1 hP 0 rfl rfl 27 (by decide +kernel) (hts _ (List.mem_cons_of_mem _ m_534)) (fun _ h9 => h9) rfl d_Ref_unite_148 ?_
          refine lv_iload hx hb d_Ref_unite_151 (lv_at hl 0 rfl) ?_
          obtain ⟨h10, hf⟩ := x_gd hf
          refine va_iald hx hb hK.1 hP 8 0 rfl rfl h10 d_Ref_unite_153 ?_
          refine lv_aload_n hx hb d_Ref_unite_154 rfl (lv_at hl 3 rfl) ?_
          refine lv_aload_n hx hb d_Ref_unite_155 rfl (lv_at hl 3 rfl) ?_
          refine va_get (D := (dC, dI)) (ci := 6) (v := .ref a_D_told) (C := "SyntaxTreesModel") (T := F_Ref) (N := 28) hx hb hts (fun w h => List.mem_cons_of_mem _ (in_Ref w h)) hown hK.1 hP 0 rfl rfl 8 (by decide +kernel) (hts _ (List.mem_cons_of_mem _ m_515)) (fun _ h9 => h9) rfl d_Ref_unite_156 ?_
          refine lv_aload_n hx hb d_Ref_unite_159 rfl (lv_at hl 3 rfl) ?_
          refine va_get (D := (dC, dI)) (ci := 6) (v := .ref a_D_starts) (C := "SyntaxTreesModel") (T := F_Ref) (N := 28) hx hb hts (fun w h => List.mem_cons_of_mem _ (in_Ref w h)) hown hK.1 hP 0 rfl rfl 7 (by decide +kernel) (hts _ (List.mem_cons_of_mem _ m_514)) (fun _ h9 => h9) rfl d_Ref_unite_160 ?_
          refine lv_iload hx hb d_Ref_unite_163 (lv_at hl 1 rfl) ?_
          obtain ⟨h11, hf⟩ := x_gd hf
          refine va_iald hx hb hK.1 hP 4 0 rfl rfl h11 d_Ref_unite_165 ?_
          obtain ⟨h12, hf⟩ := x_gd hf
          refine va_iald hx hb hK.1 hP 5 0 rfl rfl h12 d_Ref_unite_166 ?_
          refine lv_iload_n hx hb d_Ref_unite_167 rfl (lv_at hl 4 rfl) ?_
          refine lv_iload_n hx hb d_Ref_unite_168 rfl (lv_at hl 5 rfl) ?_
          obtain ⟨x13, hx13, hf⟩ := x_bd hf
          refine x_rdiV (As := [.int (D_told (D_starts v5.toNatClampNeg).toNatClampNeg), .int v1, .int v2]) (rest := [.int (D_next (D_sortOf (D_makes v5.toNatClampNeg).toNatClampNeg).toNatClampNeg), .int (D_sortOf (D_makes v5.toNatClampNeg).toNatClampNeg), .ref a_D_next]) (wc := [(a_D, .inr (6, [.int D_symbols, .ref a_D_types, .ref a_D_sortOf, .int D_sorts, .int D_rules, .int D_isOpen, .ref a_D_makes, .ref a_D_starts, .ref a_D_told, .int D_all, .ref a_D_row, .int D_length, .ref a_D_many, .ref a_D_ways, .ref a_D_base, .int D_isFound, .int D_foundLimit, .int D_nodes, .ref a_D_ruleOf, .ref a_D_sortAt, .ref a_D_from, .ref a_D_upTo, .ref a_D_firsts, .ref a_D_parts, .ref a_D_variables, .ref a_D_order, .ref a_D_pile, .ref a_D_next])), (a_D_types, .inl (cI, 1000, .inl D_types)), (a_D_sortOf, .inl (cI, 1000, .inl D_sortOf)), (a_D_many, .inl (cB, 360000, .inl D_many))]) ⟨hx, hb, hml, hown, hts⟩ (c_Ref_treesOf l dC dI cI cJ cB a_D a_D_types a_D_sortOf a_D_makes a_D_starts a_D_told a_D_row a_D_many a_D_ways a_D_base a_D_ruleOf a_D_sortAt a_D_from a_D_upTo a_D_firsts a_D_parts a_D_variables a_D_order a_D_pile a_D_next D_symbols D_sorts D_rules D_isOpen D_all D_length D_isFound D_foundLimit D_nodes D_types D_sortOf D_many (D_told (D_starts v5.toNatClampNeg).toNatClampNeg) v1 v2 n x13 hx13) (cwV 3 hts (x_gV m_620 m_621 m_35 m_48 m_622) rfl rfl rfl hd_Ref_treesOf ⟨Nat.le_of_ble_eq_true rfl, Nat.le_of_ble_eq_true rfl⟩) hK hP [0, 1, 2, 6] rfl (ci := 6) (q0 := 0) rfl rfl rfl rfl hl.1 rfl (Nat.le_of_ble_eq_true rfl) d_Ref_unite_169 ⟨Nat.le_of_ble_eq_true rfl, Nat.le_of_ble_eq_true rfl⟩ ?_
          refine lv_iadd hx hb d_Ref_unite_172 ?_
          obtain ⟨x14, hx14, hf⟩ := x_bd hf
          refine x_rdiS (As := [.int ((D_next (D_sortOf (D_makes v5.toNatClampNeg).toNatClampNeg).toNatClampNeg) + x13)]) (rest := [.int (D_sortOf (D_makes v5.toNatClampNeg).toNatClampNeg), .ref a_D_next]) (wc := []) ⟨hx, hb, hml, hown, hts⟩ (c_Ref_capped l dC dI cI cJ cB ((D_next (D_sortOf (D_makes v5.toNatClampNeg).toNatClampNeg).toNatClampNeg) + x13) n x14 hx14) (cwS 1 hts (x_gS m_623 m_624 m_48 m_625) rfl rfl rfl hd_Ref_capped ⟨Nat.le_of_ble_eq_true rfl, Nat.le_of_ble_eq_true rfl⟩) hK hP [] rfl rfl hl.1 rfl (Nat.le_of_ble_eq_true rfl) d_Ref_unite_173 ⟨Nat.le_of_ble_eq_true rfl, Nat.le_of_ble_eq_true rfl⟩ ?_
          obtain ⟨h15, hf⟩ := x_gd hf
          refine x_iast (w1 := [(a_D, .inr (6, [.int D_symbols, .ref a_D_types, .ref a_D_sortOf, .int D_sorts, .int D_rules, .int D_isOpen, .ref a_D_makes, .ref a_D_starts, .ref a_D_told, .int D_all, .ref a_D_row, .int D_length, .ref a_D_many, .ref a_D_ways, .ref a_D_base, .int D_isFound, .int D_foundLimit, .int D_nodes, .ref a_D_ruleOf, .ref a_D_sortAt, .ref a_D_from, .ref a_D_upTo, .ref a_D_firsts, .ref a_D_parts, .ref a_D_variables, .ref a_D_order, .ref a_D_pile, .ref a_D_next])), (a_D_types, .inl (cI, 1000, .inl D_types)), (a_D_sortOf, .inl (cI, 1000, .inl D_sortOf)), (a_D_makes, .inl (cI, 1500, .inl D_makes)), (a_D_starts, .inl (cI, 1501, .inl D_starts)), (a_D_told, .inl (cI, 30000, .inl D_told)), (a_D_many, .inl (cB, 360000, .inl D_many)), (a_D_base, .inl (cI, 100, .inl D_base)), (a_D_next, .inl (cI, 12000, .inl (upd D_next (D_sortOf (D_makes v5.toNatClampNeg).toNatClampNeg).toNatClampNeg x14)))]) hx hb hK.1 hP hD hS 8 0 rfl rfl h15 d_Ref_unite_176 rfl (fun H locs hP hD hS => ?_)
          refine lv_iinc (v := (v5 + (1 : Int32))) (lv' := [(5, .int (v5 + (1 : Int32))), (6, .int (D_sortOf (D_makes v5.toNatClampNeg).toNatClampNeg)), (4, .int v4), (0, .ref a_D), (1, .int v1), (2, .int v2), (3, .int v3)]) hx hb d_Ref_unite_177 hl (k := 1) rfl rfl (by decide +kernel) rfl (fun ls hl => ?_)
          refine lv_goto (tgt := 90) hx hb d_Ref_unite_180 (by decide +kernel) ?_
          exact ih (v5 + (1 : Int32)) (upd D_next (D_sortOf (D_makes v5.toNatClampNeg).toNatClampNeg).toNatClampNeg x14) o _ _ ls hf hP hD hS (lv_sub hl [0, 2, 3, 4, 5, 6] rfl) kk
set_option maxHeartbeats 4000000 in
set_option maxRecDepth 100000 in
theorem w_Ref_unite_L186 {p : Program} {l : Launch} {e : Env} {s : State} {m : MethodId} {args : Array Value} {below : List Frame} {meth : Method} {c : Code} {dC : Nat → ClassId} {dI : Nat → Nat → Nat} {cI cJ cB : ClassId} {a_D a_D_types a_D_sortOf a_D_makes a_D_starts a_D_told a_D_row a_D_many a_D_ways a_D_base a_D_ruleOf a_D_sortAt a_D_from a_D_upTo a_D_firsts a_D_parts a_D_variables a_D_order a_D_pile a_D_next : Nat} {A : Nat → Prop} {Q : State → Prop} (n : Nat) (v1 : Int32) (v2 : Int32) (v3 : Int32) (D_symbols : Int32) (D_sorts : Int32) (D_rules : Int32) (D_isOpen : Int32) (D_all : Int32) (D_length : Int32) (D_isFound : Int32) (D_foundLimit : Int32) (D_nodes : Int32) (D_types : Nat → Int32) (D_sortOf : Nat → Int32) (D_makes : Nat → Int32) (D_starts : Nat → Int32) (D_told : Nat → Int32) (D_base : Nat → Int32) (D_next : Nat → Int32) (hx : p.tables.exec = Jvm.exec) (hb : c.code = b_Ref_unite) (hml : c.maxLocals = 7) (hown : s.vm.findClass "SyntaxTreesModel" = some m.cls) (hts : ∀ w ∈ w_Ref_unite, w.before args s = true) (hK : x_K (dC, dI) [(cI, .int), (cJ, .long), (cB, .byte)] s) (hA : ∀ q, s.heap.size ≤ q → A q) : ∀ (k : Nat) (v5 : Int32) (v4 : Int32) (D_many : Nat → Int32) (o : Int32 × Int32 × (Nat → Int32)) (H : Heap) (locs : List Loc) (ls : Array Slot), f_Ref_unite_L186 n v1 v2 D_sorts D_next k v5 v4 D_many = some o → va_P (dC, dI) vwCl [(a_D, .inr (6, [.int D_symbols, .ref a_D_types, .ref a_D_sortOf, .int D_sorts, .int D_rules, .int D_isOpen, .ref a_D_makes, .ref a_D_starts, .ref a_D_told, .int D_all, .ref a_D_row, .int D_length, .ref a_D_many, .ref a_D_ways, .ref a_D_base, .int D_isFound, .int D_foundLimit, .int D_nodes, .ref a_D_ruleOf, .ref a_D_sortAt, .ref a_D_from, .ref a_D_upTo, .ref a_D_firsts, .ref a_D_parts, .ref a_D_variables, .ref a_D_order, .ref a_D_pile, .ref a_D_next])), (a_D_types, .inl (cI, 1000, .inl D_types)), (a_D_sortOf, .inl (cI, 1000, .inl D_sortOf)), (a_D_makes, .inl (cI, 1500, .inl D_makes)), (a_D_starts, .inl (cI, 1501, .inl D_starts)), (a_D_told, .inl (cI, 30000, .inl D_told)), (a_D_many, .inl (cB, 360000, .inl D_many)), (a_D_base, .inl (cI, 100, .inl D_base)), (a_D_next, .inl (cI, 12000, .inl D_next))] H → va_D A [(a_D, .inr (6, [.int D_symbols, .ref a_D_types, .ref a_D_sortOf, .int D_sorts, .int D_rules, .int D_isOpen, .ref a_D_makes, .ref a_D_starts, .ref a_D_told, .int D_all, .ref a_D_row, .int D_length, .ref a_D_many, .ref a_D_ways, .ref a_D_base, .int D_isFound, .int D_foundLimit, .int D_nodes, .ref a_D_ruleOf, .ref a_D_sortAt, .ref a_D_from, .ref a_D_upTo, .ref a_D_firsts, .ref a_D_parts, .ref a_D_variables, .ref a_D_order, .ref a_D_pile, .ref a_D_next])), (a_D_types, .inl (cI, 1000, .inl D_types)), (a_D_sortOf, .inl (cI, 1000, .inl D_sortOf)), (a_D_makes, .inl (cI, 1500, .inl D_makes)), (a_D_starts, .inl (cI, 1501, .inl D_starts)), (a_D_told, .inl (cI, 30000, .inl D_told)), (a_D_many, .inl (cB, 360000, .inl D_many)), (a_D_base, .inl (cI, 100, .inl D_base)), (a_D_next, .inl (cI, 12000, .inl D_next))] → va_S A s.heap H locs → lv_has ls 7 [(5, .int v5), (4, .int v4), (0, .ref a_D), (1, .int v1), (2, .int v2), (3, .int v3)] → (∀ (H : Heap) (locs : List Loc) (ls : Array Slot), va_P (dC, dI) vwCl [(a_D, .inr (6, [.int D_symbols, .ref a_D_types, .ref a_D_sortOf, .int D_sorts, .int D_rules, .int D_isOpen, .ref a_D_makes, .ref a_D_starts, .ref a_D_told, .int D_all, .ref a_D_row, .int D_length, .ref a_D_many, .ref a_D_ways, .ref a_D_base, .int D_isFound, .int D_foundLimit, .int D_nodes, .ref a_D_ruleOf, .ref a_D_sortAt, .ref a_D_from, .ref a_D_upTo, .ref a_D_firsts, .ref a_D_parts, .ref a_D_variables, .ref a_D_order, .ref a_D_pile, .ref a_D_next])), (a_D_types, .inl (cI, 1000, .inl D_types)), (a_D_sortOf, .inl (cI, 1000, .inl D_sortOf)), (a_D_makes, .inl (cI, 1500, .inl D_makes)), (a_D_starts, .inl (cI, 1501, .inl D_starts)), (a_D_told, .inl (cI, 30000, .inl D_told)), (a_D_many, .inl (cB, 360000, .inl o.2.2)), (a_D_base, .inl (cI, 100, .inl D_base)), (a_D_next, .inl (cI, 12000, .inl D_next))] H → va_D A [(a_D, .inr (6, [.int D_symbols, .ref a_D_types, .ref a_D_sortOf, .int D_sorts, .int D_rules, .int D_isOpen, .ref a_D_makes, .ref a_D_starts, .ref a_D_told, .int D_all, .ref a_D_row, .int D_length, .ref a_D_many, .ref a_D_ways, .ref a_D_base, .int D_isFound, .int D_foundLimit, .int D_nodes, .ref a_D_ruleOf, .ref a_D_sortAt, .ref a_D_from, .ref a_D_upTo, .ref a_D_firsts, .ref a_D_parts, .ref a_D_variables, .ref a_D_order, .ref a_D_pile, .ref a_D_next])), (a_D_types, .inl (cI, 1000, .inl D_types)), (a_D_sortOf, .inl (cI, 1000, .inl D_sortOf)), (a_D_makes, .inl (cI, 1500, .inl D_makes)), (a_D_starts, .inl (cI, 1501, .inl D_starts)), (a_D_told, .inl (cI, 30000, .inl D_told)), (a_D_many, .inl (cB, 360000, .inl o.2.2)), (a_D_base, .inl (cI, 100, .inl D_base)), (a_D_next, .inl (cI, 12000, .inl D_next))] → va_S A s.heap H locs → lv_has ls 7 [(5, .int o.1), (4, .int o.2.1), (0, .ref a_D), (1, .int v1), (2, .int v2), (3, .int v3)] → W p l e ({ frames := 1, cells := 0, slots := 0, locals := 23 }) s m args below meth c H locs 0 0 Q (F0 m 267 ls [])) → W p l e ({ frames := 1, cells := 0, slots := 0, locals := 23 }) s m args below meth c H locs 0 0 Q (F0 m 186 ls []) := by
  intro k
  induction k with
  | zero =>
    intro v5 v4 D_many o H locs ls hf
    exact absurd hf (by simp [f_Ref_unite_L186])
  | succ k ih =>
    intro v5 v4 D_many o H locs ls hf hP hD hS hl kk
    rw [f_Ref_unite_L186] at hf
    refine lv_iload hx hb d_Ref_unite_186 (lv_at hl 0 rfl) ?_
    refine lv_aload_n hx hb d_Ref_unite_188 rfl (lv_at hl 2 rfl) ?_
    refine va_get (D := (dC, dI)) (ci := 6) (v := .int D_sorts) (C := "SyntaxTreesModel") (T := F_Ref) (N := 28) hx hb hts (fun w h => List.mem_cons_of_mem _ (in_Ref w h)) hown hK.1 hP 0 rfl rfl 3 (by decide +kernel) (hts _ (List.mem_cons_of_mem _ m_510)) (fun _ h9 => h9) rfl d_Ref_unite_189 ?_
    refine lv_icmp_ge (tgt := 267) hx hb d_Ref_unite_192 (by decide +kernel) (fun c1 => ?_) (fun c1 => ?_)
    · have hf := x_pos c1 hf
      cases hf
      exact kk _ _ ls hP hD hS (lv_sub hl [0, 1, 2, 3, 4, 5] rfl)
    · have hf := x_neg c1 hf
      refine lv_iload hx hb d_Ref_unite_195 (lv_at hl 1 rfl) ?_
      refine lv_if_ne (tgt := 228) hx hb d_Ref_unite_197 (by decide +kernel) (fun c2 => ?_) (fun c2 => ?_)
      · have hf := x_neg c2 hf
        refine lv_iconst (v := (1 : Int32)) hx hb d_Ref_unite_228 (by decide +kernel) ?_
        refine lv_goto (tgt := 233) hx hb d_Ref_unite_229 (by decide +kernel) ?_
        refine lv_istore (lv' := [(4, .int (1 : Int32)), (5, .int v5), (0, .ref a_D), (1, .int v1), (2, .int v2), (3, .int v3)]) hx hb d_Ref_unite_233 hl (by decide +kernel) rfl (fun ls hl => ?_)
        refine lv_aload_n hx hb d_Ref_unite_235 rfl (lv_at hl 2 rfl) ?_
        refine va_get (D := (dC, dI)) (ci := 6) (v := .ref a_D_many) (C := "SyntaxTreesModel") (T := F_Ref) (N := 28) hx hb hts (fun w h => List.mem_cons_of_mem _ (in_Ref w h)) hown hK.1 hP 0 rfl rfl 12 (by decide +kernel) (hts _ (List.mem_cons_of_mem _ m_519)) (fun _ h9 => h9) rfl d_Ref_unite_236 ?_
        refine lv_sipush (v := (3600 : Int32)) hx hb d_Ref_unite_239 (by decide +kernel) ?_
        refine lv_iload hx hb d_Ref_unite_242 (lv_at hl 1 rfl) ?_
        refine lv_imul hx hb d_Ref_unite_244 ?_
        refine lv_bipush (v := (60 : Int32)) hx hb d_Ref_unite_245 (by decide +kernel) ?_
        refine lv_iload_n hx hb d_Ref_unite_247 rfl (lv_at hl 3 rfl) ?_
        refine lv_imul hx hb d_Ref_unite_248 ?_
        refine lv_iadd hx hb d_Ref_unite_249 ?_
        refine lv_iload_n hx hb d_Ref_unite_250 rfl (lv_at hl 4 rfl) ?_
        refine lv_iadd hx hb d_Ref_unite_251 ?_
        refine lv_aload_n hx hb d_Ref_unite_252 rfl (lv_at hl 2 rfl) ?_
        refine va_get (D := (dC, dI)) (ci := 6) (v := .ref a_D_next) (C := "SyntaxTreesModel") (T := F_Ref) (N := 28) hx hb hts (fun w h => List.mem_cons_of_mem _ (in_Ref w h)) hown hK.1 hP 0 rfl rfl 27 (by decide +kernel) (hts _ (List.mem_cons_of_mem _ m_534)) (fun _ h9 => h9) rfl d_Ref_unite_253 ?_
        refine lv_iload hx hb d_Ref_unite_256 (lv_at hl 1 rfl) ?_
        obtain ⟨h3, hf⟩ := x_gd hf
        refine va_iald hx hb hK.1 hP 8 0 rfl rfl h3 d_Ref_unite_258 ?_
        refine lv_i2b hx hb d_Ref_unite_259 rfl ?_
        obtain ⟨h4, hf⟩ := x_gd hf
        refine x_bast (w1 := [(a_D, .inr (6, [.int D_symbols, .ref a_D_types, .ref a_D_sortOf, .int D_sorts, .int D_rules, .int D_isOpen, .ref a_D_makes, .ref a_D_starts, .ref a_D_told, .int D_all, .ref a_D_row, .int D_length, .ref a_D_many, .ref a_D_ways, .ref a_D_base, .int D_isFound, .int D_foundLimit, .int D_nodes, .ref a_D_ruleOf, .ref a_D_sortAt, .ref a_D_from, .ref a_D_upTo, .ref a_D_firsts, .ref a_D_parts, .ref a_D_variables, .ref a_D_order, .ref a_D_pile, .ref a_D_next])), (a_D_types, .inl (cI, 1000, .inl D_types)), (a_D_sortOf, .inl (cI, 1000, .inl D_sortOf)), (a_D_makes, .inl (cI, 1500, .inl D_makes)), (a_D_starts, .inl (cI, 1501, .inl D_starts)), (a_D_told, .inl (cI, 30000, .inl D_told)), (a_D_many, .inl (cB, 360000, .inl (upd D_many ((((3600 : Int32) * v5) + ((60 : Int32) * v1)) + v2).toNatClampNeg (vp_nar .byte ((D_next v5.toNatClampNeg).toInt8.toInt32))))), (a_D_base, .inl (cI, 100, .inl D_base)), (a_D_next, .inl (cI, 12000, .inl D_next))]) hx hb hK.1 hP hD hS 6 2 rfl rfl h4 d_Ref_unite_260 rfl (fun H locs hP hD hS => ?_)
        refine lv_iinc (v := (v5 + (1 : Int32))) (lv' := [(5, .int (v5 + (1 : Int32))), (4, .int (1 : Int32)), (0, .ref a_D), (1, .int v1), (2, .int v2), (3, .int v3)]) hx hb d_Ref_unite_261 hl (k := 1) rfl rfl (by decide +kernel) rfl (fun ls hl => ?_)
        refine lv_goto (tgt := 186) hx hb d_Ref_unite_264 (by decide +kernel) ?_
        exact ih (v5 + (1 : Int32)) (1 : Int32) (upd D_many ((((3600 : Int32) * v5) + ((60 : Int32) * v1)) + v2).toNatClampNeg (vp_nar .byte ((D_next v5.toNatClampNeg).toInt8.toInt32))) o _ _ ls hf hP hD hS (lv_sub hl [0, 1, 2, 3, 4, 5] rfl) kk
      · have hf := x_pos c2 hf
        refine lv_aload_n hx hb d_Ref_unite_200 rfl (lv_at hl 2 rfl) ?_
        refine va_get (D := (dC, dI)) (ci := 6) (v := .ref a_D_many) (C := "SyntaxTreesModel") (T := F_Ref) (N := 28) hx hb hts (fun w h => List.mem_cons_of_mem _ (in_Ref w h)) hown hK.1 hP 0 rfl rfl 12 (by decide +kernel) (hts _ (List.mem_cons_of_mem _ m_519)) (fun _ h9 => h9) rfl d_Ref_unite_201 ?_
        refine lv_sipush (v := (3600 : Int32)) hx hb d_Ref_unite_204 (by decide +kernel) ?_
        refine lv_iload hx hb d_Ref_unite_207 (lv_at hl 0 rfl) ?_
        refine lv_imul hx hb d_Ref_unite_209 ?_
        refine lv_bipush (v := (60 : Int32)) hx hb d_Ref_unite_210 (by decide +kernel) ?_
        refine lv_iload_n hx hb d_Ref_unite_212 rfl (lv_at hl 3 rfl) ?_
        refine lv_imul hx hb d_Ref_unite_213 ?_
        refine lv_iadd hx hb d_Ref_unite_214 ?_
        refine lv_iload_n hx hb d_Ref_unite_215 rfl (lv_at hl 4 rfl) ?_
        refine lv_iadd hx hb d_Ref_unite_216 ?_
        obtain ⟨h5, hf⟩ := x_gd hf
        refine va_bald hx hb hK.1 hP 6 2 rfl rfl h5 d_Ref_unite_217 ?_
        refine lv_aload_n hx hb d_Ref_unite_218 rfl (lv_at hl 2 rfl) ?_
        refine va_get (D := (dC, dI)) (ci := 6) (v := .ref a_D_next) (C := "SyntaxTreesModel") (T := F_Ref) (N := 28) hx hb hts (fun w h => List.mem_cons_of_mem _ (in_Ref w h)) hown hK.1 hP 0 rfl rfl 27 (by decide +kernel) (hts _ (List.mem_cons_of_mem _ m_534)) (fun _ h9 => h9) rfl d_Ref_unite_219 ?_
        refine lv_iload hx hb d_Ref_unite_222 (lv_at hl 0 rfl) ?_
        obtain ⟨h6, hf⟩ := x_gd hf
        refine va_iald hx hb hK.1 hP 8 0 rfl rfl h6 d_Ref_unite_224 ?_
        refine lv_icmp_eq (tgt := 232) hx hb d_Ref_unite_225 (by decide +kernel) (fun c7 => ?_) (fun c7 => ?_)
        · have hf := x_pos c7 hf
          refine lv_iconst (v := (0 : Int32)) hx hb d_Ref_unite_232 (by decide +kernel) ?_
          refine lv_istore (lv' := [(4, .int (0 : Int32)), (5, .int v5), (0, .ref a_D), (1, .int v1), (2, .int v2), (3, .int v3)]) hx hb d_Ref_unite_233 hl (by decide +kernel) rfl (fun ls hl => ?_)
          refine lv_aload_n hx hb d_Ref_unite_235 rfl (lv_at hl 2 rfl) ?_
          refine va_get (D := (dC, dI)) (ci := 6) (v := .ref a_D_many) (C := "SyntaxTreesModel") (T := F_Ref) (N := 28) hx hb hts (fun w h => List.mem_cons_of_mem _ (in_Ref w h)) hown hK.1 hP 0 rfl rfl 12 (by decide +kernel) (hts _ (List.mem_cons_of_mem _ m_519)) (fun _ h9 => h9) rfl d_Ref_unite_236 ?_
          refine lv_sipush (v := (3600 : Int32)) hx hb d_Ref_unite_239 (by decide +kernel) ?_
          refine lv_iload hx hb d_Ref_unite_242 (lv_at hl 1 rfl) ?_
          refine lv_imul hx hb d_Ref_unite_244 ?_
          refine lv_bipush (v := (60 : Int32)) hx hb d_Ref_unite_245 (by decide +kernel) ?_
          refine lv_iload_n hx hb d_Ref_unite_247 rfl (lv_at hl 3 rfl) ?_
          refine lv_imul hx hb d_Ref_unite_248 ?_
          refine lv_iadd hx hb d_Ref_unite_249 ?_
          refine lv_iload_n hx hb d_Ref_unite_250 rfl (lv_at hl 4 rfl) ?_
          refine lv_iadd hx hb d_Ref_unite_251 ?_
          refine lv_aload_n hx hb d_Ref_unite_252 rfl (lv_at hl 2 rfl) ?_
          refine va_get (D := (dC, dI)) (ci := 6) (v := .ref a_D_next) (C := "SyntaxTreesModel") (T := F_Ref) (N := 28) hx hb hts (fun w h => List.mem_cons_of_mem _ (in_Ref w h)) hown hK.1 hP 0 rfl rfl 27 (by decide +kernel) (hts _ (List.mem_cons_of_mem _ m_534)) (fun _ h9 => h9) rfl d_Ref_unite_253 ?_
          refine lv_iload hx hb d_Ref_unite_256 (lv_at hl 1 rfl) ?_
          obtain ⟨h8, hf⟩ := x_gd hf
          refine va_iald hx hb hK.1 hP 8 0 rfl rfl h8 d_Ref_unite_258 ?_
          refine lv_i2b hx hb d_Ref_unite_259 rfl ?_
          obtain ⟨h9, hf⟩ := x_gd hf
          refine x_bast (w1 := [(a_D, .inr (6, [.int D_symbols, .ref a_D_types, .ref a_D_sortOf, .int D_sorts, .int D_rules, .int D_isOpen, .ref a_D_makes, .ref a_D_starts, .ref a_D_told, .int D_all, .ref a_D_row, .int D_length, .ref a_D_many, .ref a_D_ways, .ref a_D_base, .int D_isFound, .int D_foundLimit, .int D_nodes, .ref a_D_ruleOf, .ref a_D_sortAt, .ref a_D_from, .ref a_D_upTo, .ref a_D_firsts, .ref a_D_parts, .ref a_D_variables, .ref a_D_order, .ref a_D_pile, .ref a_D_next])), (a_D_types, .inl (cI, 1000, .inl D_types)), (a_D_sortOf, .inl (cI, 1000, .inl D_sortOf)), (a_D_makes, .inl (cI, 1500, .inl D_makes)), (a_D_starts, .inl (cI, 1501, .inl D_starts)), (a_D_told, .inl (cI, 30000, .inl D_told)), (a_D_many, .inl (cB, 360000, .inl (upd D_many ((((3600 : Int32) * v5) + ((60 : Int32) * v1)) + v2).toNatClampNeg (vp_nar .byte ((D_next v5.toNatClampNeg).toInt8.toInt32))))), (a_D_base, .inl (cI, 100, .inl D_base)), (a_D_next, .inl (cI, 12000, .inl D_next))]) hx hb hK.1 hP hD hS 6 2 rfl rfl h9 d_Ref_unite_260 rfl (fun H locs hP hD hS => ?_)
          refine lv_iinc (v := (v5 + (1 : Int32))) (lv' := [(5, .int (v5 + (1 : Int32))), (4, .int (0 : Int32)), (0, .ref a_D), (1, .int v1), (2, .int v2), (3, .int v3)]) hx hb d_Ref_unite_261 hl (k := 1) rfl rfl (by decide +kernel) rfl (fun ls hl => ?_)
          refine lv_goto (tgt := 186) hx hb d_Ref_unite_264 (by decide +kernel) ?_
          exact ih (v5 + (1 : Int32)) (0 : Int32) (upd D_many ((((3600 : Int32) * v5) + ((60 : Int32) * v1)) + v2).toNatClampNeg (vp_nar .byte ((D_next v5.toNatClampNeg).toInt8.toInt32))) o _ _ ls hf hP hD hS (lv_sub hl [0, 1, 2, 3, 4, 5] rfl) kk
        · have hf := x_neg c7 hf
          refine lv_iconst (v := (1 : Int32)) hx hb d_Ref_unite_228 (by decide +kernel) ?_
          refine lv_goto (tgt := 233) hx hb d_Ref_unite_229 (by decide +kernel) ?_
          refine lv_istore (lv' := [(4, .int (1 : Int32)), (5, .int v5), (0, .ref a_D), (1, .int v1), (2, .int v2), (3, .int v3)]) hx hb d_Ref_unite_233 hl (by decide +kernel) rfl (fun ls hl => ?_)
          refine lv_aload_n hx hb d_Ref_unite_235 rfl (lv_at hl 2 rfl) ?_
          refine va_get (D := (dC, dI)) (ci := 6) (v := .ref a_D_many) (C := "SyntaxTreesModel") (T := F_Ref) (N := 28) hx hb hts (fun w h => List.mem_cons_of_mem _ (in_Ref w h)) hown hK.1 hP 0 rfl rfl 12 (by decide +kernel) (hts _ (List.mem_cons_of_mem _ m_519)) (fun _ h9 => h9) rfl d_Ref_unite_236 ?_
          refine lv_sipush (v := (3600 : Int32)) hx hb d_Ref_unite_239 (by decide +kernel) ?_
          refine lv_iload hx hb d_Ref_unite_242 (lv_at hl 1 rfl) ?_
          refine lv_imul hx hb d_Ref_unite_244 ?_
          refine lv_bipush (v := (60 : Int32)) hx hb d_Ref_unite_245 (by decide +kernel) ?_
          refine lv_iload_n hx hb d_Ref_unite_247 rfl (lv_at hl 3 rfl) ?_
          refine lv_imul hx hb d_Ref_unite_248 ?_
          refine lv_iadd hx hb d_Ref_unite_249 ?_
          refine lv_iload_n hx hb d_Ref_unite_250 rfl (lv_at hl 4 rfl) ?_
          refine lv_iadd hx hb d_Ref_unite_251 ?_
          refine lv_aload_n hx hb d_Ref_unite_252 rfl (lv_at hl 2 rfl) ?_
          refine va_get (D := (dC, dI)) (ci := 6) (v := .ref a_D_next) (C := "SyntaxTreesModel") (T := F_Ref) (N := 28) hx hb hts (fun w h => List.mem_cons_of_mem _ (in_Ref w h)) hown hK.1 hP 0 rfl rfl 27 (by decide +kernel) (hts _ (List.mem_cons_of_mem _ m_534)) (fun _ h9 => h9) rfl d_Ref_unite_253 ?_
          refine lv_iload hx hb d_Ref_unite_256 (lv_at hl 1 rfl) ?_
          obtain ⟨h10, hf⟩ := x_gd hf
          refine va_iald hx hb hK.1 hP 8 0 rfl rfl h10 d_Ref_unite_258 ?_
          refine lv_i2b hx hb d_Ref_unite_259 rfl ?_
          obtain ⟨h11, hf⟩ := x_gd hf
          refine x_bast (w1 := [(a_D, .inr (6, [.int D_symbols, .ref a_D_types, .ref a_D_sortOf, .int D_sorts, .int D_rules, .int D_isOpen, .ref a_D_makes, .ref a_D_starts, .ref a_D_told, .int D_all, .ref a_D_row, .int D_length, .ref a_D_many, .ref a_D_ways, .ref a_D_base, .int D_isFound, .int D_foundLimit, .int D_nodes, .ref a_D_ruleOf, .ref a_D_sortAt, .ref a_D_from, .ref a_D_upTo, .ref a_D_firsts, .ref a_D_parts, .ref a_D_variables, .ref a_D_order, .ref a_D_pile, .ref a_D_next])), (a_D_types, .inl (cI, 1000, .inl D_types)), (a_D_sortOf, .inl (cI, 1000, .inl D_sortOf)), (a_D_makes, .inl (cI, 1500, .inl D_makes)), (a_D_starts, .inl (cI, 1501, .inl D_starts)), (a_D_told, .inl (cI, 30000, .inl D_told)), (a_D_many, .inl (cB, 360000, .inl (upd D_many ((((3600 : Int32) * v5) + ((60 : Int32) * v1)) + v2).toNatClampNeg (vp_nar .byte ((D_next v5.toNatClampNeg).toInt8.toInt32))))), (a_D_base, .inl (cI, 100, .inl D_base)), (a_D_next, .inl (cI, 12000, .inl D_next))]) hx hb hK.1 hP hD hS 6 2 rfl rfl h11 d_Ref_unite_260 rfl (fun H locs hP hD hS => ?_)
          refine lv_iinc (v := (v5 + (1 : Int32))) (lv' := [(5, .int (v5 + (1 : Int32))), (4, .int (1 : Int32)), (0, .ref a_D), (1, .int v1), (2, .int v2), (3, .int v3)]) hx hb d_Ref_unite_261 hl (k := 1) rfl rfl (by decide +kernel) rfl (fun ls hl => ?_)
          refine lv_goto (tgt := 186) hx hb d_Ref_unite_264 (by decide +kernel) ?_
          exact ih (v5 + (1 : Int32)) (1 : Int32) (upd D_many ((((3600 : Int32) * v5) + ((60 : Int32) * v1)) + v2).toNatClampNeg (vp_nar .byte ((D_next v5.toNatClampNeg).toInt8.toInt32))) o _ _ ls hf hP hD hS (lv_sub hl [0, 1, 2, 3, 4, 5] rfl) kk
set_option maxHeartbeats 4000000 in
set_option maxRecDepth 100000 in
theorem w_Ref_unite_L47 {p : Program} {l : Launch} {e : Env} {s : State} {m : MethodId} {args : Array Value} {below : List Frame} {meth : Method} {c : Code} {dC : Nat → ClassId} {dI : Nat → Nat → Nat} {cI cJ cB : ClassId} {a_D a_D_types a_D_sortOf a_D_makes a_D_starts a_D_told a_D_row a_D_many a_D_ways a_D_base a_D_ruleOf a_D_sortAt a_D_from a_D_upTo a_D_firsts a_D_parts a_D_variables a_D_order a_D_pile a_D_next : Nat} {A : Nat → Prop} {Q : State → Prop} (n : Nat) (v1 : Int32) (v2 : Int32) (v3 : Int32) (D_symbols : Int32) (D_sorts : Int32) (D_rules : Int32) (D_isOpen : Int32) (D_all : Int32) (D_length : Int32) (D_isFound : Int32) (D_foundLimit : Int32) (D_nodes : Int32) (D_types : Nat → Int32) (D_sortOf : Nat → Int32) (D_makes : Nat → Int32) (D_starts : Nat → Int32) (D_told : Nat → Int32) (D_base : Nat → Int32) (hx : p.tables.exec = Jvm.exec) (hb : c.code = b_Ref_unite) (hml : c.maxLocals = 7) (hown : s.vm.findClass "SyntaxTreesModel" = some m.cls) (hts : ∀ w ∈ w_Ref_unite, w.before args s = true) (hK : x_K (dC, dI) [(cI, .int), (cJ, .long), (cB, .byte)] s) (hA : ∀ q, s.heap.size ≤ q → A q) : ∀ (k : Nat) (v4 : Int32) (D_many : Nat → Int32) (D_next : Nat → Int32) (o : Int32 × (Nat → Int32) × (Nat → Int32)) (H : Heap) (locs : List Loc) (ls : Array Slot), f_Ref_unite_L47 n v1 v2 v3 D_sorts D_types D_sortOf D_makes D_starts D_told D_base k v4 D_many D_next = some o → va_P (dC, dI) vwCl [(a_D, .inr (6, [.int D_symbols, .ref a_D_types, .ref a_D_sortOf, .int D_sorts, .int D_rules, .int D_isOpen, .ref a_D_makes, .ref a_D_starts, .ref a_D_told, .int D_all, .ref a_D_row, .int D_length, .ref a_D_many, .ref a_D_ways, .ref a_D_base, .int D_isFound, .int D_foundLimit, .int D_nodes, .ref a_D_ruleOf, .ref a_D_sortAt, .ref a_D_from, .ref a_D_upTo, .ref a_D_firsts, .ref a_D_parts, .ref a_D_variables, .ref a_D_order, .ref a_D_pile, .ref a_D_next])), (a_D_types, .inl (cI, 1000, .inl D_types)), (a_D_sortOf, .inl (cI, 1000, .inl D_sortOf)), (a_D_makes, .inl (cI, 1500, .inl D_makes)), (a_D_starts, .inl (cI, 1501, .inl D_starts)), (a_D_told, .inl (cI, 30000, .inl D_told)), (a_D_many, .inl (cB, 360000, .inl D_many)), (a_D_base, .inl (cI, 100, .inl D_base)), (a_D_next, .inl (cI, 12000, .inl D_next))] H → va_D A [(a_D, .inr (6, [.int D_symbols, .ref a_D_types, .ref a_D_sortOf, .int D_sorts, .int D_rules, .int D_isOpen, .ref a_D_makes, .ref a_D_starts, .ref a_D_told, .int D_all, .ref a_D_row, .int D_length, .ref a_D_many, .ref a_D_ways, .ref a_D_base, .int D_isFound, .int D_foundLimit, .int D_nodes, .ref a_D_ruleOf, .ref a_D_sortAt, .ref a_D_from, .ref a_D_upTo, .ref a_D_firsts, .ref a_D_parts, .ref a_D_variables, .ref a_D_order, .ref a_D_pile, .ref a_D_next])), (a_D_types, .inl (cI, 1000, .inl D_types)), (a_D_sortOf, .inl (cI, 1000, .inl D_sortOf)), (a_D_makes, .inl (cI, 1500, .inl D_makes)), (a_D_starts, .inl (cI, 1501, .inl D_starts)), (a_D_told, .inl (cI, 30000, .inl D_told)), (a_D_many, .inl (cB, 360000, .inl D_many)), (a_D_base, .inl (cI, 100, .inl D_base)), (a_D_next, .inl (cI, 12000, .inl D_next))] → va_S A s.heap H locs → lv_has ls 7 [(4, .int v4), (0, .ref a_D), (1, .int v1), (2, .int v2), (3, .int v3)] → (∀ (H : Heap) (locs : List Loc) (ls : Array Slot), va_P (dC, dI) vwCl [(a_D, .inr (6, [.int D_symbols, .ref a_D_types, .ref a_D_sortOf, .int D_sorts, .int D_rules, .int D_isOpen, .ref a_D_makes, .ref a_D_starts, .ref a_D_told, .int D_all, .ref a_D_row, .int D_length, .ref a_D_many, .ref a_D_ways, .ref a_D_base, .int D_isFound, .int D_foundLimit, .int D_nodes, .ref a_D_ruleOf, .ref a_D_sortAt, .ref a_D_from, .ref a_D_upTo, .ref a_D_firsts, .ref a_D_parts, .ref a_D_variables, .ref a_D_order, .ref a_D_pile, .ref a_D_next])), (a_D_types, .inl (cI, 1000, .inl D_types)), (a_D_sortOf, .inl (cI, 1000, .inl D_sortOf)), (a_D_makes, .inl (cI, 1500, .inl D_makes)), (a_D_starts, .inl (cI, 1501, .inl D_starts)), (a_D_told, .inl (cI, 30000, .inl D_told)), (a_D_many, .inl (cB, 360000, .inl o.2.1)), (a_D_base, .inl (cI, 100, .inl D_base)), (a_D_next, .inl (cI, 12000, .inl o.2.2))] H → va_D A [(a_D, .inr (6, [.int D_symbols, .ref a_D_types, .ref a_D_sortOf, .int D_sorts, .int D_rules, .int D_isOpen, .ref a_D_makes, .ref a_D_starts, .ref a_D_told, .int D_all, .ref a_D_row, .int D_length, .ref a_D_many, .ref a_D_ways, .ref a_D_base, .int D_isFound, .int D_foundLimit, .int D_nodes, .ref a_D_ruleOf, .ref a_D_sortAt, .ref a_D_from, .ref a_D_upTo, .ref a_D_firsts, .ref a_D_parts, .ref a_D_variables, .ref a_D_order, .ref a_D_pile, .ref a_D_next])), (a_D_types, .inl (cI, 1000, .inl D_types)), (a_D_sortOf, .inl (cI, 1000, .inl D_sortOf)), (a_D_makes, .inl (cI, 1500, .inl D_makes)), (a_D_starts, .inl (cI, 1501, .inl D_starts)), (a_D_told, .inl (cI, 30000, .inl D_told)), (a_D_many, .inl (cB, 360000, .inl o.2.1)), (a_D_base, .inl (cI, 100, .inl D_base)), (a_D_next, .inl (cI, 12000, .inl o.2.2))] → va_S A s.heap H locs → lv_has ls 7 [(4, .int o.1), (0, .ref a_D), (1, .int v1), (2, .int v2), (3, .int v3)] → W p l e ({ frames := 1, cells := 0, slots := 0, locals := 23 }) s m args below meth c H locs 0 0 Q (F0 m 270 ls [])) → W p l e ({ frames := 1, cells := 0, slots := 0, locals := 23 }) s m args below meth c H locs 0 0 Q (F0 m 47 ls []) := by
  intro k
  induction k with
  | zero =>
    intro v4 D_many D_next o H locs ls hf
    exact absurd hf (by simp [f_Ref_unite_L47])
  | succ k ih =>
    intro v4 D_many D_next o H locs ls hf hP hD hS hl kk
    rw [f_Ref_unite_L47] at hf
    refine lv_iload hx hb d_Ref_unite_47 (lv_at hl 0 rfl) ?_
    refine lv_if_eq (tgt := 270) hx hb d_Ref_unite_49 (by decide +kernel) (fun c1 => ?_) (fun c1 => ?_)
    · have hf := x_pos c1 hf
      cases hf
      exact kk _ _ ls hP hD hS (lv_sub hl [0, 1, 2, 3, 4] rfl)
    · have hf := x_neg c1 hf
      refine lv_iconst (v := (0 : Int32)) hx hb d_Ref_unite_52 (by decide +kernel) ?_
      refine lv_istore (lv' := [(4, .int (0 : Int32)), (0, .ref a_D), (1, .int v1), (2, .int v2), (3, .int v3)]) hx hb d_Ref_unite_53 hl (by decide +kernel) rfl (fun ls hl => ?_)
      refine lv_iconst (v := (0 : Int32)) hx hb d_Ref_unite_55 (by decide +kernel) ?_
      refine lv_istore (lv' := [(5, .int (0 : Int32)), (4, .int (0 : Int32)), (0, .ref a_D), (1, .int v1), (2, .int v2), (3, .int v3)]) hx hb d_Ref_unite_56 hl (by decide +kernel) rfl (fun ls hl => ?_)
      obtain ⟨x2, hx2, hf⟩ := x_bd hf
      refine w_Ref_unite_L58 n (0 : Int32) v1 v2 v3 D_symbols D_sorts D_rules D_isOpen D_all D_length D_isFound D_foundLimit D_nodes D_types D_sortOf D_makes D_starts D_told D_many D_base hx hb hml hown hts hK hA n (0 : Int32) D_next x2 _ _ ls hx2 hP hD hS (lv_sub hl [0, 1, 2, 3, 4, 5] rfl) (fun H locs ls hP hD hS hl => ?_)
      refine lv_iconst (v := (0 : Int32)) hx hb d_Ref_unite_87 (by decide +kernel) ?_
      refine lv_istore (lv' := [(5, .int (0 : Int32)), (4, .int (0 : Int32)), (0, .ref a_D), (1, .int v1), (2, .int v2), (3, .int v3)]) hx hb d_Ref_unite_88 hl (by decide +kernel) rfl (fun ls hl => ?_)
      obtain ⟨x3, hx3, hf⟩ := x_bd hf
      refine w_Ref_unite_L90 n (0 : Int32) v1 v2 v3 D_symbols D_sorts D_rules D_isOpen D_all D_length D_isFound D_foundLimit D_nodes D_types D_sortOf D_makes D_starts D_told D_many D_base hx hb hml hown hts hK hA n (0 : Int32) x2.2 x3 _ _ ls hx3 hP hD hS (lv_sub hl [0, 1, 2, 3, 4, 5] rfl) (fun H locs ls hP hD hS hl => ?_)
      refine lv_iconst (v := (0 : Int32)) hx hb d_Ref_unite_183 (by decide +kernel) ?_
      refine lv_istore (lv' := [(5, .int (0 : Int32)), (4, .int (0 : Int32)), (0, .ref a_D), (1, .int v1), (2, .int v2), (3, .int v3)]) hx hb d_Ref_unite_184 hl (by decide +kernel) rfl (fun ls hl => ?_)
      obtain ⟨x4, hx4, hf⟩ := x_bd hf
      refine w_Ref_unite_L186 n v1 v2 v3 D_symbols D_sorts D_rules D_isOpen D_all D_length D_isFound D_foundLimit D_nodes D_types D_sortOf D_makes D_starts D_told D_base x3.2 hx hb hml hown hts hK hA n (0 : Int32) (0 : Int32) D_many x4 _ _ ls hx4 hP hD hS (lv_sub hl [0, 1, 2, 3, 4, 5] rfl) (fun H locs ls hP hD hS hl => ?_)
      refine lv_goto (tgt := 47) hx hb d_Ref_unite_267 (by decide +kernel) ?_
      exact ih x4.2.1 x4.2.2 x3.2 o _ _ ls hf hP hD hS (lv_sub hl [1, 2, 3, 4, 5] rfl) kk
