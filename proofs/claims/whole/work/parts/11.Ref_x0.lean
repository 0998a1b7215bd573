set_option maxHeartbeats 4000000 in
set_option maxRecDepth 100000 in
theorem c_Ref_isSymbol (l : Launch) (dC : Nat → ClassId) (dI : Nat → Nat → Nat) (cI cJ cB : ClassId) (a_D a_D_types a_D_sortOf a_D_makes a_D_starts a_D_told a_D_row a_D_many a_D_ways a_D_base a_D_ruleOf a_D_sortAt a_D_from a_D_upTo a_D_firsts a_D_parts a_D_variables a_D_order a_D_pile a_D_next : Nat)  (D_symbols : Int32) (D_sorts : Int32) (D_rules : Int32) (D_isOpen : Int32) (D_all : Int32) (D_length : Int32) (D_isFound : Int32) (D_foundLimit : Int32) (D_nodes : Int32) (p1 : Int32) (n : Nat) (o : Int32) (hf : f_Ref_isSymbol n D_symbols p1 = some o) : Met l y_Ref_isSymbol w_Ref_isSymbol ({ frames := 0, cells := 0, slots := 0, locals := 0 }) (va_Pc [.ref a_D, .int p1] (fun U => va_P (dC, dI) vwCl [(a_D, .inr (6, [.int D_symbols, .ref a_D_types, .ref a_D_sortOf, .int D_sorts, .int D_rules, .int D_isOpen, .ref a_D_makes, .ref a_D_starts, .ref a_D_told, .int D_all, .ref a_D_row, .int D_length, .ref a_D_many, .ref a_D_ways, .ref a_D_base, .int D_isFound, .int D_foundLimit, .int D_nodes, .ref a_D_ruleOf, .ref a_D_sortAt, .ref a_D_from, .ref a_D_upTo, .ref a_D_firsts, .ref a_D_parts, .ref a_D_variables, .ref a_D_order, .ref a_D_pile, .ref a_D_next]))] U.heap ∧ x_K (dC, dI) [(cI, .int), (cJ, .long), (cB, .byte)] U)) (QcRead o) 0 0 (fun _ => False) := by
  refine Met.ofW (cc := b_Ref_isSymbol) (maxL := 2) (ret := (some .boolean)) (by decide +kernel) rfl ?_
  intro p e s m args below meth c s₁ B hml hv
  obtain ⟨rfl, hP, hK⟩ := hv
  have hx := B.exec
  have hb := B.bytes
  have hr := B.returns
  have hts := atoms_spec (ws := w_Ref_isSymbol) B.pre
  have hown : s.vm.findClass "SyntaxTreesModel" = some m.cls := findClass_of_methodNamed B.named
  have hlocks := B.notSynchronized
  have hP : va_P (dC, dI) vwCl [(a_D, .inr (6, [.int D_symbols, .ref a_D_types, .ref a_D_sortOf, .int D_sorts, .int D_rules, .int D_isOpen, .ref a_D_makes, .ref a_D_starts, .ref a_D_told, .int D_all, .ref a_D_row, .int D_length, .ref a_D_many, .ref a_D_ways, .ref a_D_base, .int D_isFound, .int D_foundLimit, .int D_nodes, .ref a_D_ruleOf, .ref a_D_sortAt, .ref a_D_from, .ref a_D_upTo, .ref a_D_firsts, .ref a_D_parts, .ref a_D_variables, .ref a_D_order, .ref a_D_pile, .ref a_D_next]))] s.heap := hP
  have hl := lv_entry ([.ref a_D, .int p1]) (n := 2) (Nat.le_of_ble_eq_true rfl)
  rw [lg_entry_eq]
  generalize (lg_sl ([.ref a_D, .int p1]) ++ List.replicate (2 - (lg_sl ([.ref a_D, .int p1])).length) Slot.unset).toArray = ls at hl ⊢
  have hl : lv_has ls 2 [(0, .ref a_D), (1, .int p1)] := hl
  refine x_Q (fun Q hQ => ?_)
  unfold f_Ref_isSymbol at hf
  refine lv_iload_n hx hb d_Ref_isSymbol_0 rfl (lv_at hl 1 rfl) ?_
  refine lv_if_lt (tgt := 16) hx hb d_Ref_isSymbol_1 (by decide +kernel) (fun c1 => ?_) (fun c1 => ?_)
  · have hf := x_pos c1 hf
    refine lv_iconst (v := (0 : Int32)) hx hb d_Ref_isSymbol_16 (by decide +kernel) ?_
    cases hf
    subst hQ
    exact W.zret hx hb hr rfl (fun t ht _ => ⟨rfl, ht⟩) (fun _ h => absurd h List.not_mem_nil) d_Ref_isSymbol_17
  · have hf := x_neg c1 hf
    refine lv_iload_n hx hb d_Ref_isSymbol_4 rfl (lv_at hl 1 rfl) ?_
    refine lv_aload_n hx hb d_Ref_isSymbol_5 rfl (lv_at hl 0 rfl) ?_
    refine va_get (D := (dC, dI)) (ci := 6) (v := .int D_symbols) (C := "SyntaxTreesModel") (T := F_Ref) (N := 28) hx hb hts (fun w h => List.mem_cons_of_mem _ (in_Ref w h)) hown hK.1 hP 0 rfl rfl 0 (by decide +kernel) (hts _ (List.mem_cons_of_mem _ m_507)) (fun _ h9 => h9) rfl d_Ref_isSymbol_6 ?_
    refine lv_icmp_ge (tgt := 16) hx hb d_Ref_isSymbol_9 (by decide +kernel) (fun c2 => ?_) (fun c2 => ?_)
    · have hf := x_pos c2 hf
      refine lv_iconst (v := (0 : Int32)) hx hb d_Ref_isSymbol_16 (by decide +kernel) ?_
      cases hf
      subst hQ
      exact W.zret hx hb hr rfl (fun t ht _ => ⟨rfl, ht⟩) (fun _ h => absurd h List.not_mem_nil) d_Ref_isSymbol_17
    · have hf := x_neg c2 hf
      refine lv_iconst (v := (1 : Int32)) hx hb d_Ref_isSymbol_12 (by decide +kernel) ?_
      refine lv_goto (tgt := 17) hx hb d_Ref_isSymbol_13 (by decide +kernel) ?_
      cases hf
      subst hQ
      exact W.zret hx hb hr rfl (fun t ht _ => ⟨rfl, ht⟩) (fun _ h => absurd h List.not_mem_nil) d_Ref_isSymbol_17
set_option maxHeartbeats 4000000 in
set_option maxRecDepth 100000 in
theorem c_Ref_isConstant (l : Launch) (dC : Nat → ClassId) (dI : Nat → Nat → Nat) (cI cJ cB : ClassId) (a_D a_D_types a_D_sortOf a_D_makes a_D_starts a_D_told a_D_row a_D_many a_D_ways a_D_base a_D_ruleOf a_D_sortAt a_D_from a_D_upTo a_D_firsts a_D_parts a_D_variables a_D_order a_D_pile a_D_next : Nat)  (D_symbols : Int32) (D_sorts : Int32) (D_rules : Int32) (D_isOpen : Int32) (D_all : Int32) (D_length : Int32) (D_isFound : Int32) (D_foundLimit : Int32) (D_nodes : Int32) (D_types : Nat → Int32) (p1 : Int32) (n : Nat) (o : Int32) (hf : f_Ref_isConstant n D_symbols D_types p1 = some o) : Met l y_Ref_isConstant w_Ref_isConstant ({ frames := 1, cells := 0, slots := 0, locals := 21 }) (va_Pc [.ref a_D, .int p1] (fun U => va_P (dC, dI) vwCl [(a_D, .inr (6, [.int D_symbols, .ref a_D_types, .ref a_D_sortOf, .int D_sorts, .int D_rules, .int D_isOpen, .ref a_D_makes, .ref a_D_starts, .ref a_D_told, .int D_all, .ref a_D_row, .int D_length, .ref a_D_many, .ref a_D_ways, .ref a_D_base, .int D_isFound, .int D_foundLimit, .int D_nodes, .ref a_D_ruleOf, .ref a_D_sortAt, .ref a_D_from, .ref a_D_upTo, .ref a_D_firsts, .ref a_D_parts, .ref a_D_variables, .ref a_D_order, .ref a_D_pile, .ref a_D_next])), (a_D_types, .inl (cI, 1000, .inl D_types))] U.heap ∧ x_K (dC, dI) [(cI, .int), (cJ, .long), (cB, .byte)] U)) (QcRead o) 0 0 (fun _ => False) := by
  refine Met.ofW (cc := b_Ref_isConstant) (maxL := 2) (ret := (some .boolean)) (by decide +kernel) rfl ?_
  intro p e s m args below meth c s₁ B hml hv
  obtain ⟨rfl, hP, hK⟩ := hv
  have hx := B.exec
  have hb := B.bytes
  have hr := B.returns
  have hts := atoms_spec (ws := w_Ref_isConstant) B.pre
  have hown : s.vm.findClass "SyntaxTreesModel" = some m.cls := findClass_of_methodNamed B.named
  have hlocks := B.notSynchronized
  have hP : va_P (dC, dI) vwCl [(a_D, .inr (6, [.int D_symbols, .ref a_D_types, .ref a_D_sortOf, .int D_sorts, .int D_rules, .int D_isOpen, .ref a_D_makes, .ref a_D_starts, .ref a_D_told, .int D_all, .ref a_D_row, .int D_length, .ref a_D_many, .ref a_D_ways, .ref a_D_base, .int D_isFound, .int D_foundLimit, .int D_nodes, .ref a_D_ruleOf, .ref a_D_sortAt, .ref a_D_from, .ref a_D_upTo, .ref a_D_firsts, .ref a_D_parts, .ref a_D_variables, .ref a_D_order, .ref a_D_pile, .ref a_D_next])), (a_D_types, .inl (cI, 1000, .inl D_types))] s.heap := hP
  have hl := lv_entry ([.ref a_D, .int p1]) (n := 2) (Nat.le_of_ble_eq_true rfl)
  rw [lg_entry_eq]
  generalize (lg_sl ([.ref a_D, .int p1]) ++ List.replicate (2 - (lg_sl ([.ref a_D, .int p1])).length) Slot.unset).toArray = ls at hl ⊢
  have hl : lv_has ls 2 [(0, .ref a_D), (1, .int p1)] := hl
  refine x_Q (fun Q hQ => ?_)
  unfold f_Ref_isConstant at hf
  refine lv_aload_n hx hb d_Ref_isConstant_0 rfl (lv_at hl 0 rfl) ?_
  refine lv_iload_n hx hb d_Ref_isConstant_1 rfl (lv_at hl 1 rfl) ?_
  obtain ⟨x1, hx1, hf⟩ := x_bd hf
  refine x_rdiV (As := [.int p1]) (rest := []) (wc := [(a_D, .inr (6, [.int D_symbols, .ref a_D_types, .ref a_D_sortOf, .int D_sorts, .int D_rules, .int D_isOpen, .ref a_D_makes, .ref a_D_starts, .ref a_D_told, .int D_all, .ref a_D_row, .int D_length, .ref a_D_many, .ref a_D_ways, .ref a_D_base, .int D_isFound, .int D_foundLimit, .int D_nodes, .ref a_D_ruleOf, .ref a_D_sortAt, .ref a_D_from, .ref a_D_upTo, .ref a_D_firsts, .ref a_D_parts, .ref a_D_variables, .ref a_D_order, .ref a_D_pile, .ref a_D_next]))]) ⟨hx, hb, hml, hown, hts⟩ (c_Ref_isSymbol l dC dI cI cJ cB a_D a_D_types a_D_sortOf a_D_makes a_D_starts a_D_told a_D_row a_D_many a_D_ways a_D_base a_D_ruleOf a_D_sortAt a_D_from a_D_upTo a_D_firsts a_D_parts a_D_variables a_D_order a_D_pile a_D_next D_symbols D_sorts D_rules D_isOpen D_all D_length D_isFound D_foundLimit D_nodes p1 n x1 hx1) (cwV 1 hts (x_gV m_574 m_575 m_29 m_48 m_576) rfl rfl rfl hd_Ref_isSymbol ⟨Nat.le_of_ble_eq_true rfl, Nat.le_of_ble_eq_true rfl⟩) hK hP [0] rfl (ci := 6) (q0 := 0) rfl rfl rfl rfl hl.1 rfl (Nat.le_of_ble_eq_true rfl) d_Ref_isConstant_2 ⟨Nat.le_of_ble_eq_true rfl, Nat.le_of_ble_eq_true rfl⟩ ?_
  refine lv_if_eq (tgt := 22) hx hb d_Ref_isConstant_5 (by decide +kernel) (fun c2 => ?_) (fun c2 => ?_)
  · have hf := x_pos c2 hf
    refine lv_iconst (v := (0 : Int32)) hx hb d_Ref_isConstant_22 (by decide +kernel) ?_
    cases hf
    subst hQ
    exact W.zret hx hb hr rfl (fun t ht _ => ⟨rfl, ht⟩) (fun _ h => absurd h List.not_mem_nil) d_Ref_isConstant_23
  · have hf := x_neg c2 hf
    refine lv_aload_n hx hb d_Ref_isConstant_8 rfl (lv_at hl 0 rfl) ?_
    refine va_get (D := (dC, dI)) (ci := 6) (v := .ref a_D_types) (C := "SyntaxTreesModel") (T := F_Ref) (N := 28) hx hb hts (fun w h => List.mem_cons_of_mem _ (in_Ref w h)) hown hK.1 hP 0 rfl rfl 1 (by decide +kernel) (hts _ (List.mem_cons_of_mem _ m_508)) (fun _ h9 => h9) rfl d_Ref_isConstant_9 ?_
    refine lv_iload_n hx hb d_Ref_isConstant_12 rfl (lv_at hl 1 rfl) ?_
    obtain ⟨h3, hf⟩ := x_gd hf
    refine va_iald hx hb hK.1 hP 1 0 rfl rfl h3 d_Ref_isConstant_13 ?_
    refine lv_iconst (v := (-1 : Int32)) hx hb d_Ref_isConstant_14 (by decide +kernel) ?_
    refine lv_icmp_ne (tgt := 22) hx hb d_Ref_isConstant_15 (by decide +kernel) (fun c4 => ?_) (fun c4 => ?_)
    · have hf := x_neg c4 hf
      refine lv_iconst (v := (0 : Int32)) hx hb d_Ref_isConstant_22 (by decide +kernel) ?_
      cases hf
      subst hQ
      exact W.zret hx hb hr rfl (fun t ht _ => ⟨rfl, ht⟩) (fun _ h => absurd h List.not_mem_nil) d_Ref_isConstant_23
    · have hf := x_pos c4 hf
      refine lv_iconst (v := (1 : Int32)) hx hb d_Ref_isConstant_18 (by decide +kernel) ?_
      refine lv_goto (tgt := 23) hx hb d_Ref_isConstant_19 (by decide +kernel) ?_
      cases hf
      subst hQ
      exact W.zret hx hb hr rfl (fun t ht _ => ⟨rfl, ht⟩) (fun _ h => absurd h List.not_mem_nil) d_Ref_isConstant_23
set_option maxHeartbeats 4000000 in
set_option maxRecDepth 100000 in
theorem c_Ref_canBeSort (l : Launch) (dC : Nat → ClassId) (dI : Nat → Nat → Nat) (cI cJ cB : ClassId) (a_D a_D_types a_D_sortOf a_D_makes a_D_starts a_D_told a_D_row a_D_many a_D_ways a_D_base a_D_ruleOf a_D_sortAt a_D_from a_D_upTo a_D_firsts a_D_parts a_D_variables a_D_order a_D_pile a_D_next : Nat)  (D_symbols : Int32) (D_sorts : Int32) (D_rules : Int32) (D_isOpen : Int32) (D_all : Int32) (D_length : Int32) (D_isFound : Int32) (D_foundLimit : Int32) (D_nodes : Int32) (D_types : Nat → Int32) (D_sortOf : Nat → Int32) (p1 : Int32) (n : Nat) (o : Int32) (hf : f_Ref_canBeSort n D_symbols D_sorts D_types D_sortOf p1 = some o) : Met l y_Ref_canBeSort w_Ref_canBeSort ({ frames := 2, cells := 0, slots := 0, locals := 42 }) (va_Pc [.ref a_D, .int p1] (fun U => va_P (dC, dI) vwCl [(a_D, .inr (6, [.int D_symbols, .ref a_D_types, .ref a_D_sortOf, .int D_sorts, .int D_rules, .int D_isOpen, .ref a_D_makes, .ref a_D_starts, .ref a_D_told, .int D_all, .ref a_D_row, .int D_length, .ref a_D_many, .ref a_D_ways, .ref a_D_base, .int D_isFound, .int D_foundLimit, .int D_nodes, .ref a_D_ruleOf, .ref a_D_sortAt, .ref a_D_from, .ref a_D_upTo, .ref a_D_firsts, .ref a_D_parts, .ref a_D_variables, .ref a_D_order, .ref a_D_pile, .ref a_D_next])), (a_D_types, .inl (cI, 1000, .inl D_types)), (a_D_sortOf, .inl (cI, 1000, .inl D_sortOf))] U.heap ∧ x_K (dC, dI) [(cI, .int), (cJ, .long), (cB, .byte)] U)) (QcRead o) 0 0 (fun _ => False) := by
  refine Met.ofW (cc := b_Ref_canBeSort) (maxL := 2) (ret := (some .boolean)) (by decide +kernel) rfl ?_
  intro p e s m args below meth c s₁ B hml hv
  obtain ⟨rfl, hP, hK⟩ := hv
  have hx := B.exec
  have hb := B.bytes
  have hr := B.returns
  have hts := atoms_spec (ws := w_Ref_canBeSort) B.pre
  have hown : s.vm.findClass "SyntaxTreesModel" = some m.cls := findClass_of_methodNamed B.named
  have hlocks := B.notSynchronized
  have hP : va_P (dC, dI) vwCl [(a_D, .inr (6, [.int D_symbols, .ref a_D_types, .ref a_D_sortOf, .int D_sorts, .int D_rules, .int D_isOpen, .ref a_D_makes, .ref a_D_starts, .ref a_D_told, .int D_all, .ref a_D_row, .int D_length, .ref a_D_many, .ref a_D_ways, .ref a_D_base, .int D_isFound, .int D_foundLimit, .int D_nodes, .ref a_D_ruleOf, .ref a_D_sortAt, .ref a_D_from, .ref a_D_upTo, .ref a_D_firsts, .ref a_D_parts, .ref a_D_variables, .ref a_D_order, .ref a_D_pile, .ref a_D_next])), (a_D_types, .inl (cI, 1000, .inl D_types)), (a_D_sortOf, .inl (cI, 1000, .inl D_sortOf))] s.heap := hP
  have hl := lv_entry ([.ref a_D, .int p1]) (n := 2) (Nat.le_of_ble_eq_true rfl)
  rw [lg_entry_eq]
  generalize (lg_sl ([.ref a_D, .int p1]) ++ List.replicate (2 - (lg_sl ([.ref a_D, .int p1])).length) Slot.unset).toArray = ls at hl ⊢
  have hl : lv_has ls 2 [(0, .ref a_D), (1, .int p1)] := hl
  refine x_Q (fun Q hQ => ?_)
  unfold f_Ref_canBeSort at hf
  refine lv_aload_n hx hb d_Ref_canBeSort_0 rfl (lv_at hl 0 rfl) ?_
  refine lv_iload_n hx hb d_Ref_canBeSort_1 rfl (lv_at hl 1 rfl) ?_
  obtain ⟨x1, hx1, hf⟩ := x_bd hf
  refine x_rdiV (As := [.int p1]) (rest := []) (wc := [(a_D, .inr (6, [.int D_symbols, .ref a_D_types, .ref a_D_sortOf, .int D_sorts, .int D_rules, .int D_isOpen, .ref a_D_makes, .ref a_D_starts, .ref a_D_told, .int D_all, .ref a_D_row, .int D_length, .ref a_D_many, .ref a_D_ways, .ref a_D_base, .int D_isFound, .int D_foundLimit, .int D_nodes, .ref a_D_ruleOf, .ref a_D_sortAt, .ref a_D_from, .ref a_D_upTo, .ref a_D_firsts, .ref a_D_parts, .ref a_D_variables, .ref a_D_order, .ref a_D_pile, .ref a_D_next])), (a_D_types, .inl (cI, 1000, .inl D_types))]) ⟨hx, hb, hml, hown, hts⟩ (c_Ref_isConstant l dC dI cI cJ cB a_D a_D_types a_D_sortOf a_D_makes a_D_starts a_D_told a_D_row a_D_many a_D_ways a_D_base a_D_ruleOf a_D_sortAt a_D_from a_D_upTo a_D_firsts a_D_parts a_D_variables a_D_order a_D_pile a_D_next D_symbols D_sorts D_rules D_isOpen D_all D_length D_isFound D_foundLimit D_nodes D_types p1 n x1 hx1) (cwV 1 hts (x_gV m_571 m_572 m_28 m_48 m_573) rfl rfl rfl hd_Ref_isConstant ⟨Nat.le_of_ble_eq_true rfl, Nat.le_of_ble_eq_true rfl⟩) hK hP [0, 1] rfl (ci := 6) (q0 := 0) rfl rfl rfl rfl hl.1 rfl (Nat.le_of_ble_eq_true rfl) d_Ref_canBeSort_2 ⟨Nat.le_of_ble_eq_true rfl, Nat.le_of_ble_eq_true rfl⟩ ?_
  refine lv_if_eq (tgt := 31) hx hb d_Ref_canBeSort_5 (by decide +kernel) (fun c2 => ?_) (fun c2 => ?_)
  · have hf := x_pos c2 hf
    refine lv_iconst (v := (0 : Int32)) hx hb d_Ref_canBeSort_31 (by decide +kernel) ?_
    cases hf
    subst hQ
    exact W.zret hx hb hr rfl (fun t ht _ => ⟨rfl, ht⟩) (fun _ h => absurd h List.not_mem_nil) d_Ref_canBeSort_32
  · have hf := x_neg c2 hf
    refine lv_aload_n hx hb d_Ref_canBeSort_8 rfl (lv_at hl 0 rfl) ?_
    refine va_get (D := (dC, dI)) (ci := 6) (v := .ref a_D_sortOf) (C := "SyntaxTreesModel") (T := F_Ref) (N := 28) hx hb hts (fun w h => List.mem_cons_of_mem _ (in_Ref w h)) hown hK.1 hP 0 rfl rfl 2 (by decide +kernel) (hts _ (List.mem_cons_of_mem _ m_509)) (fun _ h9 => h9) rfl d_Ref_canBeSort_9 ?_
    refine lv_iload_n hx hb d_Ref_canBeSort_12 rfl (lv_at hl 1 rfl) ?_
    obtain ⟨h3, hf⟩ := x_gd hf
    refine va_iald hx hb hK.1 hP 2 0 rfl rfl h3 d_Ref_canBeSort_13 ?_
    refine lv_iconst (v := (-1 : Int32)) hx hb d_Ref_canBeSort_14 (by decide +kernel) ?_
    refine lv_icmp_ne (tgt := 27) hx hb d_Ref_canBeSort_15 (by decide +kernel) (fun c4 => ?_) (fun c4 => ?_)
    · have hf := x_neg c4 hf
      refine lv_iconst (v := (1 : Int32)) hx hb d_Ref_canBeSort_27 (by decide +kernel) ?_
      refine lv_goto (tgt := 32) hx hb d_Ref_canBeSort_28 (by decide +kernel) ?_
      cases hf
      subst hQ
      exact W.zret hx hb hr rfl (fun t ht _ => ⟨rfl, ht⟩) (fun _ h => absurd h List.not_mem_nil) d_Ref_canBeSort_32
    · have hf := x_pos c4 hf
      refine lv_aload_n hx hb d_Ref_canBeSort_18 rfl (lv_at hl 0 rfl) ?_
      refine va_get (D := (dC, dI)) (ci := 6) (v := .int D_sorts) (C := "SyntaxTreesModel") (T := F_Ref) (N := 28) hx hb hts (fun w h => List.mem_cons_of_mem _ (in_Ref w h)) hown hK.1 hP 0 rfl rfl 3 (by decide +kernel) (hts _ (List.mem_cons_of_mem _ m_510)) (fun _ h9 => h9) rfl d_Ref_canBeSort_19 ?_
      refine lv_bipush (v := (100 : Int32)) hx hb d_Ref_canBeSort_22 (by decide +kernel) ?_
      refine lv_icmp_ge (tgt := 31) hx hb d_Ref_canBeSort_24 (by decide +kernel) (fun c5 => ?_) (fun c5 => ?_)
      · have hf := x_pos c5 hf
        refine lv_iconst (v := (0 : Int32)) hx hb d_Ref_canBeSort_31 (by decide +kernel) ?_
        cases hf
        subst hQ
        exact W.zret hx hb hr rfl (fun t ht _ => ⟨rfl, ht⟩) (fun _ h => absurd h List.not_mem_nil) d_Ref_canBeSort_32
      · have hf := x_neg c5 hf
        refine lv_iconst (v := (1 : Int32)) hx hb d_Ref_canBeSort_27 (by decide +kernel) ?_
        refine lv_goto (tgt := 32) hx hb d_Ref_canBeSort_28 (by decide +kernel) ?_
        cases hf
        subst hQ
        exact W.zret hx hb hr rfl (fun t ht _ => ⟨rfl, ht⟩) (fun _ h => absurd h List.not_mem_nil) d_Ref_canBeSort_32
set_option maxHeartbeats 4000000 in
set_option maxRecDepth 100000 in
theorem c_Ref_becomesSort (l : Launch) (dC : Nat → ClassId) (dI : Nat → Nat → Nat) (cI cJ cB : ClassId) (a_D a_D_types a_D_sortOf a_D_makes a_D_starts a_D_told a_D_row a_D_many a_D_ways a_D_base a_D_ruleOf a_D_sortAt a_D_from a_D_upTo a_D_firsts a_D_parts a_D_variables a_D_order a_D_pile a_D_next : Nat)  (D_symbols : Int32) (D_sorts : Int32) (D_rules : Int32) (D_isOpen : Int32) (D_all : Int32) (D_length : Int32) (D_isFound : Int32) (D_foundLimit : Int32) (D_nodes : Int32) (D_sortOf : Nat → Int32) (p1 : Int32) (sz : Nat) (n : Nat) (o : Int32 × (Nat → Int32)) (hf : f_Ref_becomesSort n D_sorts D_sortOf p1 = some o) : Met l y_Ref_becomesSort w_Ref_becomesSort ({ frames := 0, cells := 0, slots := 0, locals := 0 }) (va_Pc [.ref a_D, .int p1] (fun U => U.heap.size = sz ∧ va_P (dC, dI) vwCl [(a_D, .inr (6, [.int D_symbols, .ref a_D_types, .ref a_D_sortOf, .int D_sorts, .int D_rules, .int D_isOpen, .ref a_D_makes, .ref a_D_starts, .ref a_D_told, .int D_all, .ref a_D_row, .int D_length, .ref a_D_many, .ref a_D_ways, .ref a_D_base, .int D_isFound, .int D_foundLimit, .int D_nodes, .ref a_D_ruleOf, .ref a_D_sortAt, .ref a_D_from, .ref a_D_upTo, .ref a_D_firsts, .ref a_D_parts, .ref a_D_variables, .ref a_D_order, .ref a_D_pile, .ref a_D_next])), (a_D_sortOf, .inl (cI, 1000, .inl D_sortOf))] U.heap ∧ x_K (dC, dI) [(cI, .int), (cJ, .long), (cB, .byte)] U ∧ va_D (fun _ => True) [(a_D, .inr (6, [.int D_symbols, .ref a_D_types, .ref a_D_sortOf, .int D_sorts, .int D_rules, .int D_isOpen, .ref a_D_makes, .ref a_D_starts, .ref a_D_told, .int D_all, .ref a_D_row, .int D_length, .ref a_D_many, .ref a_D_ways, .ref a_D_base, .int D_isFound, .int D_foundLimit, .int D_nodes, .ref a_D_ruleOf, .ref a_D_sortAt, .ref a_D_from, .ref a_D_upTo, .ref a_D_firsts, .ref a_D_parts, .ref a_D_variables, .ref a_D_order, .ref a_D_pile, .ref a_D_next])), (a_D_sortOf, .inl (cI, 1000, .inl D_sortOf))])) (va_Qv (fun (_ : Unit) => True) (fun _ t => va_P (dC, dI) vwCl [(a_D, .inr (6, [.int D_symbols, .ref a_D_types, .ref a_D_sortOf, .int o.1, .int D_rules, .int D_isOpen, .ref a_D_makes, .ref a_D_starts, .ref a_D_told, .int D_all, .ref a_D_row, .int D_length, .ref a_D_many, .ref a_D_ways, .ref a_D_base, .int D_isFound, .int D_foundLimit, .int D_nodes, .ref a_D_ruleOf, .ref a_D_sortAt, .ref a_D_from, .ref a_D_upTo, .ref a_D_firsts, .ref a_D_parts, .ref a_D_variables, .ref a_D_order, .ref a_D_pile, .ref a_D_next])), (a_D_sortOf, .inl (cI, 1000, .inl o.2))] t.heap ∧ va_D (va_A [(a_D, .inr (6, [.int D_symbols, .ref a_D_types, .ref a_D_sortOf, .int D_sorts, .int D_rules, .int D_isOpen, .ref a_D_makes, .ref a_D_starts, .ref a_D_told, .int D_all, .ref a_D_row, .int D_length, .ref a_D_many, .ref a_D_ways, .ref a_D_base, .int D_isFound, .int D_foundLimit, .int D_nodes, .ref a_D_ruleOf, .ref a_D_sortAt, .ref a_D_from, .ref a_D_upTo, .ref a_D_firsts, .ref a_D_parts, .ref a_D_variables, .ref a_D_order, .ref a_D_pile, .ref a_D_next])), (a_D_sortOf, .inl (cI, 1000, .inl D_sortOf))] sz) [(a_D, .inr (6, [.int D_symbols, .ref a_D_types, .ref a_D_sortOf, .int o.1, .int D_rules, .int D_isOpen, .ref a_D_makes, .ref a_D_starts, .ref a_D_told, .int D_all, .ref a_D_row, .int D_length, .ref a_D_many, .ref a_D_ways, .ref a_D_base, .int D_isFound, .int D_foundLimit, .int D_nodes, .ref a_D_ruleOf, .ref a_D_sortAt, .ref a_D_from, .ref a_D_upTo, .ref a_D_firsts, .ref a_D_parts, .ref a_D_variables, .ref a_D_order, .ref a_D_pile, .ref a_D_next])), (a_D_sortOf, .inl (cI, 1000, .inl o.2))]) (va_A [(a_D, .inr (6, [.int D_symbols, .ref a_D_types, .ref a_D_sortOf, .int D_sorts, .int D_rules, .int D_isOpen, .ref a_D_makes, .ref a_D_starts, .ref a_D_told, .int D_all, .ref a_D_row, .int D_length, .ref a_D_many, .ref a_D_ways, .ref a_D_base, .int D_isFound, .int D_foundLimit, .int D_nodes, .ref a_D_ruleOf, .ref a_D_sortAt, .ref a_D_from, .ref a_D_upTo, .ref a_D_firsts, .ref a_D_parts, .ref a_D_variables, .ref a_D_order, .ref a_D_pile, .ref a_D_next])), (a_D_sortOf, .inl (cI, 1000, .inl D_sortOf))] sz)) 0 0 (va_A [(a_D, .inr (6, [.int D_symbols, .ref a_D_types, .ref a_D_sortOf, .int D_sorts, .int D_rules, .int D_isOpen, .ref a_D_makes, .ref a_D_starts, .ref a_D_told, .int D_all, .ref a_D_row, .int D_length, .ref a_D_many, .ref a_D_ways, .ref a_D_base, .int D_isFound, .int D_foundLimit, .int D_nodes, .ref a_D_ruleOf, .ref a_D_sortAt, .ref a_D_from, .ref a_D_upTo, .ref a_D_firsts, .ref a_D_parts, .ref a_D_variables, .ref a_D_order, .ref a_D_pile, .ref a_D_next])), (a_D_sortOf, .inl (cI, 1000, .inl D_sortOf))] sz) := by
  refine Met.ofW (cc := b_Ref_becomesSort) (maxL := 2) (ret := none) (by decide +kernel) rfl ?_
  intro p e s m args below meth c s₁ B hml hv
  obtain ⟨rfl, hsz, hP, hK, hD0⟩ := hv
  have hx := B.exec
  have hb := B.bytes
  have hr := B.returns
  have hts := atoms_spec (ws := w_Ref_becomesSort) B.pre
  have hown : s.vm.findClass "SyntaxTreesModel" = some m.cls := findClass_of_methodNamed B.named
  have hlocks := B.notSynchronized
  subst hsz
  have hD := hD0.self (sz := s.heap.size)
  generalize hAe : va_A [(a_D, .inr (6, [.int D_symbols, .ref a_D_types, .ref a_D_sortOf, .int D_sorts, .int D_rules, .int D_isOpen, .ref a_D_makes, .ref a_D_starts, .ref a_D_told, .int D_all, .ref a_D_row, .int D_length, .ref a_D_many, .ref a_D_ways, .ref a_D_base, .int D_isFound, .int D_foundLimit, .int D_nodes, .ref a_D_ruleOf, .ref a_D_sortAt, .ref a_D_from, .ref a_D_upTo, .ref a_D_firsts, .ref a_D_parts, .ref a_D_variables, .ref a_D_order, .ref a_D_pile, .ref a_D_next])), (a_D_sortOf, .inl (cI, 1000, .inl D_sortOf))] s.heap.size = A at hD ⊢
  have hA : ∀ q : Nat, s.heap.size ≤ q → A q := fun q h => by rw [← hAe]; exact Or.inr h
  have hS : va_S A s.heap s.heap [] := va_S.rf
  have hP : va_P (dC, dI) vwCl [(a_D, .inr (6, [.int D_symbols, .ref a_D_types, .ref a_D_sortOf, .int D_sorts, .int D_rules, .int D_isOpen, .ref a_D_makes, .ref a_D_starts, .ref a_D_told, .int D_all, .ref a_D_row, .int D_length, .ref a_D_many, .ref a_D_ways, .ref a_D_base, .int D_isFound, .int D_foundLimit, .int D_nodes, .ref a_D_ruleOf, .ref a_D_sortAt, .ref a_D_from, .ref a_D_upTo, .ref a_D_firsts, .ref a_D_parts, .ref a_D_variables, .ref a_D_order, .ref a_D_pile, .ref a_D_next])), (a_D_sortOf, .inl (cI, 1000, .inl D_sortOf))] s.heap := hP
  have hl := lv_entry ([.ref a_D, .int p1]) (n := 2) (Nat.le_of_ble_eq_true rfl)
  rw [lg_entry_eq]
  generalize (lg_sl ([.ref a_D, .int p1]) ++ List.replicate (2 - (lg_sl ([.ref a_D, .int p1])).length) Slot.unset).toArray = ls at hl ⊢
  have hl : lv_has ls 2 [(0, .ref a_D), (1, .int p1)] := hl
  refine x_Q (fun Q hQ => ?_)
  unfold f_Ref_becomesSort at hf
  refine lv_aload_n hx hb d_Ref_becomesSort_0 rfl (lv_at hl 0 rfl) ?_
  refine va_get (D := (dC, dI)) (ci := 6) (v := .ref a_D_sortOf) (C := "SyntaxTreesModel") (T := F_Ref) (N := 28) hx hb hts (fun w h => List.mem_cons_of_mem _ (in_Ref w h)) hown hK.1 hP 0 rfl rfl 2 (by decide +kernel) (hts _ (List.mem_cons_of_mem _ m_509)) (fun _ h9 => h9) rfl d_Ref_becomesSort_1 ?_
  refine lv_iload_n hx hb d_Ref_becomesSort_4 rfl (lv_at hl 1 rfl) ?_
  obtain ⟨h1, hf⟩ := x_gd hf
  refine va_iald hx hb hK.1 hP 1 0 rfl rfl h1 d_Ref_becomesSort_5 ?_
  refine lv_iconst (v := (-1 : Int32)) hx hb d_Ref_becomesSort_6 (by decide +kernel) ?_
  refine lv_icmp_ne (tgt := 30) hx hb d_Ref_becomesSort_7 (by decide +kernel) (fun c2 => ?_) (fun c2 => ?_)
  · have hf := x_neg c2 hf
    cases hf
    subst hQ
    exact W.vret hx hb hr (fun t ht _ => ⟨⟨(), rfl, trivial, by rw [ht]; exact hP, hD⟩, hS.F ht⟩) hS.2.2 d_Ref_becomesSort_30
  · have hf := x_pos c2 hf
    refine lv_aload_n hx hb d_Ref_becomesSort_10 rfl (lv_at hl 0 rfl) ?_
    refine va_get (D := (dC, dI)) (ci := 6) (v := .ref a_D_sortOf) (C := "SyntaxTreesModel") (T := F_Ref) (N := 28) hx hb hts (fun w h => List.mem_cons_of_mem _ (in_Ref w h)) hown hK.1 hP 0 rfl rfl 2 (by decide +kernel) (hts _ (List.mem_cons_of_mem _ m_509)) (fun _ h9 => h9) rfl d_Ref_becomesSort_11 ?_
    refine lv_iload_n hx hb d_Ref_becomesSort_14 rfl (lv_at hl 1 rfl) ?_
    refine lv_aload_n hx hb d_Ref_becomesSort_15 rfl (lv_at hl 0 rfl) ?_
    refine va_get (D := (dC, dI)) (ci := 6) (v := .int D_sorts) (C := "SyntaxTreesModel") (T := F_Ref) (N := 28) hx hb hts (fun w h => List.mem_cons_of_mem _ (in_Ref w h)) hown hK.1 hP 0 rfl rfl 3 (by decide +kernel) (hts _ (List.mem_cons_of_mem _ m_510)) (fun _ h9 => h9) rfl d_Ref_becomesSort_16 ?_
    obtain ⟨h3, hf⟩ := x_gd hf
    refine x_iast (w1 := [(a_D, .inr (6, [.int D_symbols, .ref a_D_types, .ref a_D_sortOf, .int D_sorts, .int D_rules, .int D_isOpen, .ref a_D_makes, .ref a_D_starts, .ref a_D_told, .int D_all, .ref a_D_row, .int D_length, .ref a_D_many, .ref a_D_ways, .ref a_D_base, .int D_isFound, .int D_foundLimit, .int D_nodes, .ref a_D_ruleOf, .ref a_D_sortAt, .ref a_D_from, .ref a_D_upTo, .ref a_D_firsts, .ref a_D_parts, .ref a_D_variables, .ref a_D_order, .ref a_D_pile, .ref a_D_next])), (a_D_sortOf, .inl (cI, 1000, .inl (upd D_sortOf p1.toNatClampNeg D_sorts)))]) hx hb hK.1 hP hD hS 1 0 rfl rfl h3 d_Ref_becomesSort_19 rfl (fun H locs hP hD hS => ?_)
    refine lv_aload_n hx hb d_Ref_becomesSort_20 rfl (lv_at hl 0 rfl) ?_
    refine lv_dup hx hb d_Ref_becomesSort_21 rfl ?_
    refine va_get (D := (dC, dI)) (ci := 6) (v := .int D_sorts) (C := "SyntaxTreesModel") (T := F_Ref) (N := 28) hx hb hts (fun w h => List.mem_cons_of_mem _ (in_Ref w h)) hown hK.1 hP 0 rfl rfl 3 (by decide +kernel) (hts _ (List.mem_cons_of_mem _ m_510)) (fun _ h9 => h9) rfl d_Ref_becomesSort_22 ?_
    refine lv_iconst (v := (1 : Int32)) hx hb d_Ref_becomesSort_25 (by decide +kernel) ?_
    refine lv_iadd hx hb d_Ref_becomesSort_26 ?_
    refine x_put (D := (dC, dI)) (ci := 6) (v := .int (D_sorts + (1 : Int32))) (ty := .int) (C := "SyntaxTreesModel") (T := F_Ref) (N := 28) (w1 := [(a_D, .inr (6, [.int D_symbols, .ref a_D_types, .ref a_D_sortOf, .int (D_sorts + (1 : Int32)), .int D_rules, .int D_isOpen, .ref a_D_makes, .ref a_D_starts, .ref a_D_told, .int D_all, .ref a_D_row, .int D_length, .ref a_D_many, .ref a_D_ways, .ref a_D_base, .int D_isFound, .int D_foundLimit, .int D_nodes, .ref a_D_ruleOf, .ref a_D_sortAt, .ref a_D_from, .ref a_D_upTo, .ref a_D_firsts, .ref a_D_parts, .ref a_D_variables, .ref a_D_order, .ref a_D_pile, .ref a_D_next])), (a_D_sortOf, .inl (cI, 1000, .inl (upd D_sortOf p1.toNatClampNeg D_sorts)))]) hx hb hts (fun w h => List.mem_cons_of_mem _ (in_Ref w h)) t_Ref t_Ref_ok n_Ref hown hK.1 hP hD hS 0 rfl rfl 3 (by decide +kernel) (hts _ (List.mem_cons_of_mem _ m_510)) (fun _ h9 => h9) rfl (by decide +kernel) rfl rfl (Nat.le_of_ble_eq_true rfl) d_Ref_becomesSort_27 rfl (fun H locs hP hD hS => ?_)
    cases hf
    subst hQ
    exact W.vret hx hb hr (fun t ht _ => ⟨⟨(), rfl, trivial, by rw [ht]; exact hP, hD⟩, hS.F ht⟩) hS.2.2 d_Ref_becomesSort_30
set_option maxHeartbeats 4000000 in
set_option maxRecDepth 100000 in
theorem c_Ref_symbol (l : Launch) (dC : Nat → ClassId) (dI : Nat → Nat → Nat) (cI cJ cB : ClassId) (a_D a_D_types a_D_sortOf a_D_makes a_D_starts a_D_told a_D_row a_D_many a_D_ways a_D_base a_D_ruleOf a_D_sortAt a_D_from a_D_upTo a_D_firsts a_D_parts a_D_variables a_D_order a_D_pile a_D_next : Nat)  (D_symbols : Int32) (D_sorts : Int32) (D_rules : Int32) (D_isOpen : Int32) (D_all : Int32) (D_length : Int32) (D_isFound : Int32) (D_foundLimit : Int32) (D_nodes : Int32) (D_types : Nat → Int32) (D_sortOf : Nat → Int32) (p1 : Int32) (sz : Nat) (n : Nat) (o : Int32 × Int32 × Int32 × Int32 × (Nat → Int32) × (Nat → Int32)) (hf : f_Ref_symbol n D_symbols D_sorts D_isFound D_types D_sortOf p1 = some o) : Met l y_Ref_symbol w_Ref_symbol ({ frames := 3, cells := 0, slots := 0, locals := 63 }) (va_Pc [.ref a_D, .int p1] (fun U => U.heap.size = sz ∧ va_P (dC, dI) vwCl [(a_D, .inr (6, [.int D_symbols, .ref a_D_types, .ref a_D_sortOf, .int D_sorts, .int D_rules, .int D_isOpen, .ref a_D_makes, .ref a_D_starts, .ref a_D_told, .int D_all, .ref a_D_row, .int D_length, .ref a_D_many, .ref a_D_ways, .ref a_D_base, .int D_isFound, .int D_foundLimit, .int D_nodes, .ref a_D_ruleOf, .ref a_D_sortAt, .ref a_D_from, .ref a_D_upTo, .ref a_D_firsts, .ref a_D_parts, .ref a_D_variables, .ref a_D_order, .ref a_D_pile, .ref a_D_next])), (a_D_types, .inl (cI, 1000, .inl D_types)), (a_D_sortOf, .inl (cI, 1000, .inl D_sortOf))] U.heap ∧ x_K (dC, dI) [(cI, .int), (cJ, .long), (cB, .byte)] U ∧ va_D (fun _ => True) [(a_D, .inr (6, [.int D_symbols, .ref a_D_types, .ref a_D_sortOf, .int D_sorts, .int D_rules, .int D_isOpen, .ref a_D_makes, .ref a_D_starts, .ref a_D_told, .int D_all, .ref a_D_row, .int D_length, .ref a_D_many, .ref a_D_ways, .ref a_D_base, .int D_isFound, .int D_foundLimit, .int D_nodes, .ref a_D_ruleOf, .ref a_D_sortAt, .ref a_D_from, .ref a_D_upTo, .ref a_D_firsts, .ref a_D_parts, .ref a_D_variables, .ref a_D_order, .ref a_D_pile, .ref a_D_next])), (a_D_types, .inl (cI, 1000, .inl D_types)), (a_D_sortOf, .inl (cI, 1000, .inl D_sortOf))])) (va_Qi (fun r (_ : Unit) => r = o.1) (fun _ t => va_P (dC, dI) vwCl [(a_D, .inr (6, [.int o.2.1, .ref a_D_types, .ref a_D_sortOf, .int o.2.2.1, .int D_rules, .int D_isOpen, .ref a_D_makes, .ref a_D_starts, .ref a_D_told, .int D_all, .ref a_D_row, .int D_length, .ref a_D_many, .ref a_D_ways, .ref a_D_base, .int o.2.2.2.1, .int D_foundLimit, .int D_nodes, .ref a_D_ruleOf, .ref a_D_sortAt, .ref a_D_from, .ref a_D_upTo, .ref a_D_firsts, .ref a_D_parts, .ref a_D_variables, .ref a_D_order, .ref a_D_pile, .ref a_D_next])), (a_D_types, .inl (cI, 1000, .inl o.2.2.2.2.1)), (a_D_sortOf, .inl (cI, 1000, .inl o.2.2.2.2.2))] t.heap ∧ va_D (va_A [(a_D, .inr (6, [.int D_symbols, .ref a_D_types, .ref a_D_sortOf, .int D_sorts, .int D_rules, .int D_isOpen, .ref a_D_makes, .ref a_D_starts, .ref a_D_told, .int D_all, .ref a_D_row, .int D_length, .ref a_D_many, .ref a_D_ways, .ref a_D_base, .int D_isFound, .int D_foundLimit, .int D_nodes, .ref a_D_ruleOf, .ref a_D_sortAt, .ref a_D_from, .ref a_D_upTo, .ref a_D_firsts, .ref a_D_parts, .ref a_D_variables, .ref a_D_order, .ref a_D_pile, .ref a_D_next])), (a_D_types, .inl (cI, 1000, .inl D_types)), (a_D_sortOf, .inl (cI, 1000, .inl D_sortOf))] sz) [(a_D, .inr (6, [.int o.2.1, .ref a_D_types, .ref a_D_sortOf, .int o.2.2.1, .int D_rules, .int D_isOpen, .ref a_D_makes, .ref a_D_starts, .ref a_D_told, .int D_all, .ref a_D_row, .int D_length, .ref a_D_many, .ref a_D_ways, .ref a_D_base, .int o.2.2.2.1, .int D_foundLimit, .int D_nodes, .ref a_D_ruleOf, .ref a_D_sortAt, .ref a_D_from, .ref a_D_upTo, .ref a_D_firsts, .ref a_D_parts, .ref a_D_variables, .ref a_D_order, .ref a_D_pile, .ref a_D_next])), (a_D_types, .inl (cI, 1000, .inl o.2.2.2.2.1)), (a_D_sortOf, .inl (cI, 1000, .inl o.2.2.2.2.2))]) (va_A [(a_D, .inr (6, [.int D_symbols, .ref a_D_types, .ref a_D_sortOf, .int D_sorts, .int D_rules, .int D_isOpen, .ref a_D_makes, .ref a_D_starts, .ref a_D_told, .int D_all, .ref a_D_row, .int D_length, .ref a_D_many, .ref a_D_ways, .ref a_D_base, .int D_isFound, .int D_foundLimit, .int D_nodes, .ref a_D_ruleOf, .ref a_D_sortAt, .ref a_D_from, .ref a_D_upTo, .ref a_D_firsts, .ref a_D_parts, .ref a_D_variables, .ref a_D_order, .ref a_D_pile, .ref a_D_next])), (a_D_types, .inl (cI, 1000, .inl D_types)), (a_D_sortOf, .inl (cI, 1000, .inl D_sortOf))] sz)) 0 0 (va_A [(a_D, .inr (6, [.int D_symbols, .ref a_D_types, .ref a_D_sortOf, .int D_sorts, .int D_rules, .int D_isOpen, .ref a_D_makes, .ref a_D_starts, .ref a_D_told, .int D_all, .ref a_D_row, .int D_length, .ref a_D_many, .ref a_D_ways, .ref a_D_base, .int D_isFound, .int D_foundLimit, .int D_nodes, .ref a_D_ruleOf, .ref a_D_sortAt, .ref a_D_from, .ref a_D_upTo, .ref a_D_firsts, .ref a_D_parts, .ref a_D_variables, .ref a_D_order, .ref a_D_pile, .ref a_D_next])), (a_D_types, .inl (cI, 1000, .inl D_types)), (a_D_sortOf, .inl (cI, 1000, .inl D_sortOf))] sz) := by
  refine Met.ofW (cc := b_Ref_symbol) (maxL := 2) (ret := (some .int)) (by decide +kernel) rfl ?_
  intro p e s m args below meth c s₁ B hml hv
  obtain ⟨rfl, hsz, hP, hK, hD0⟩ := hv
  have hx := B.exec
  have hb := B.bytes
  have hr := B.returns
  have hts := atoms_spec (ws := w_Ref_symbol) B.pre
  have hown : s.vm.findClass "SyntaxTreesModel" = some m.cls := findClass_of_methodNamed B.named
  have hlocks := B.notSynchronized
  subst hsz
  have hD := hD0.self (sz := s.heap.size)
  generalize hAe : va_A [(a_D, .inr (6, [.int D_symbols, .ref a_D_types, .ref a_D_sortOf, .int D_sorts, .int D_rules, .int D_isOpen, .ref a_D_makes, .ref a_D_starts, .ref a_D_told, .int D_all, .ref a_D_row, .int D_length, .ref a_D_many, .ref a_D_ways, .ref a_D_base, .int D_isFound, .int D_foundLimit, .int D_nodes, .ref a_D_ruleOf, .ref a_D_sortAt, .ref a_D_from, .ref a_D_upTo, .ref a_D_firsts, .ref a_D_parts, .ref a_D_variables, .ref a_D_order, .ref a_D_pile, .ref a_D_next])), (a_D_types, .inl (cI, 1000, .inl D_types)), (a_D_sortOf, .inl (cI, 1000, .inl D_sortOf))] s.heap.size = A at hD ⊢
  have hA : ∀ q : Nat, s.heap.size ≤ q → A q := fun q h => by rw [← hAe]; exact Or.inr h
  have hS : va_S A s.heap s.heap [] := va_S.rf
  have hP : va_P (dC, dI) vwCl [(a_D, .inr (6, [.int D_symbols, .ref a_D_types, .ref a_D_sortOf, .int D_sorts, .int D_rules, .int D_isOpen, .ref a_D_makes, .ref a_D_starts, .ref a_D_told, .int D_all, .ref a_D_row, .int D_length, .ref a_D_many, .ref a_D_ways, .ref a_D_base, .int D_isFound, .int D_foundLimit, .int D_nodes, .ref a_D_ruleOf, .ref a_D_sortAt, .ref a_D_from, .ref a_D_upTo, .ref a_D_firsts, .ref a_D_parts, .ref a_D_variables, .ref a_D_order, .ref a_D_pile, .ref a_D_next])), (a_D_types, .inl (cI, 1000, .inl D_types)), (a_D_sortOf, .inl (cI, 1000, .inl D_sortOf))] s.heap := hP
  have hl := lv_entry ([.ref a_D, .int p1]) (n := 2) (Nat.le_of_ble_eq_true rfl)
  rw [lg_entry_eq]
  generalize (lg_sl ([.ref a_D, .int p1]) ++ List.replicate (2 - (lg_sl ([.ref a_D, .int p1])).length) Slot.unset).toArray = ls at hl ⊢
  have hl : lv_has ls 2 [(0, .ref a_D), (1, .int p1)] := hl
  refine x_Q (fun Q hQ => ?_)
  unfold f_Ref_symbol at hf
  refine lv_aload_n hx hb d_Ref_symbol_0 rfl (lv_at hl 0 rfl) ?_
  refine va_get (D := (dC, dI)) (ci := 6) (v := .int D_symbols) (C := "SyntaxTreesModel") (T := F_Ref) (N := 28) hx hb hts (fun w h => List.mem_cons_of_mem _ (in_Ref w h)) hown hK.1 hP 0 rfl rfl 0 (by decide +kernel) (hts _ (List.mem_cons_of_mem _ m_507)) (fun _ h9 => h9) rfl d_Ref_symbol_1 ?_
  refine lv_sipush (v := (1000 : Int32)) hx hb d_Ref_symbol_4 (by decide +kernel) ?_
  refine lv_icmp_eq (tgt := 23) hx hb d_Ref_symbol_7 (by decide +kernel) (fun c1 => ?_) (fun c1 => ?_)
  · have hf := x_pos c1 hf
    refine lv_iconst (v := (-1 : Int32)) hx hb d_Ref_symbol_23 (by decide +kernel) ?_
    cases hf
    subst hQ
    exact W.iret hx hb hr (fun t ht _ => ⟨⟨_, (), rfl, rfl, by rw [ht]; exact hP, hD⟩, hS.F ht⟩) hS.2.2 d_Ref_symbol_24
  · have hf := x_neg c1 hf
    refine lv_iload_n hx hb d_Ref_symbol_10 rfl (lv_at hl 1 rfl) ?_
    refine lv_iconst (v := (-1 : Int32)) hx hb d_Ref_symbol_11 (by decide +kernel) ?_
    refine lv_icmp_eq (tgt := 25) hx hb d_Ref_symbol_12 (by decide +kernel) (fun c2 => ?_) (fun c2 => ?_)
    · have hf := x_pos c2 hf
      refine lv_aload_n hx hb d_Ref_symbol_25 rfl (lv_at hl 0 rfl) ?_
      refine lv_iconst (v := (0 : Int32)) hx hb d_Ref_symbol_26 (by decide +kernel) ?_
      refine x_put (D := (dC, dI)) (ci := 6) (v := .int (0 : Int32)) (ty := .boolean) (C := "SyntaxTreesModel") (T := F_Ref) (N := 28) (w1 := [(a_D, .inr (6, [.int D_symbols, .ref a_D_types, .ref a_D_sortOf, .int D_sorts, .int D_rules, .int D_isOpen, .ref a_D_makes, .ref a_D_starts, .ref a_D_told, .int D_all, .ref a_D_row, .int D_length, .ref a_D_many, .ref a_D_ways, .ref a_D_base, .int (0 : Int32), .int D_foundLimit, .int D_nodes, .ref a_D_ruleOf, .ref a_D_sortAt, .ref a_D_from, .ref a_D_upTo, .ref a_D_firsts, .ref a_D_parts, .ref a_D_variables, .ref a_D_order, .ref a_D_pile, .ref a_D_next])), (a_D_types, .inl (cI, 1000, .inl D_types)), (a_D_sortOf, .inl (cI, 1000, .inl D_sortOf))]) hx hb hts (fun w h => List.mem_cons_of_mem _ (in_Ref w h)) t_Ref t_Ref_ok n_Ref hown hK.1 hP hD hS 0 rfl rfl 15 (by decide +kernel) (hts _ (List.mem_cons_of_mem _ m_522)) (fun _ h9 => h9) rfl (by decide +kernel) rfl rfl (Nat.le_of_ble_eq_true rfl) d_Ref_symbol_27 rfl (fun H locs hP hD hS => ?_)
      refine lv_iload_n hx hb d_Ref_symbol_30 rfl (lv_at hl 1 rfl) ?_
      refine lv_iconst (v := (-1 : Int32)) hx hb d_Ref_symbol_31 (by decide +kernel) ?_
      refine lv_icmp_eq (tgt := 40) hx hb d_Ref_symbol_32 (by decide +kernel) (fun c3 => ?_) (fun c3 => ?_)
      · have hf := x_pos c3 hf
        refine lv_aload_n hx hb d_Ref_symbol_40 rfl (lv_at hl 0 rfl) ?_
        refine va_get (D := (dC, dI)) (ci := 6) (v := .ref a_D_types) (C := "SyntaxTreesModel") (T := F_Ref) (N := 28) hx hb hts (fun w h => List.mem_cons_of_mem _ (in_Ref w h)) hown hK.1 hP 0 rfl rfl 1 (by decide +kernel) (hts _ (List.mem_cons_of_mem _ m_508)) (fun _ h9 => h9) rfl d_Ref_symbol_41 ?_
        refine lv_aload_n hx hb d_Ref_symbol_44 rfl (lv_at hl 0 rfl) ?_
        refine va_get (D := (dC, dI)) (ci := 6) (v := .int D_symbols) (C := "SyntaxTreesModel") (T := F_Ref) (N := 28) hx hb hts (fun w h => List.mem_cons_of_mem _ (in_Ref w h)) hown hK.1 hP 0 rfl rfl 0 (by decide +kernel) (hts _ (List.mem_cons_of_mem _ m_507)) (fun _ h9 => h9) rfl d_Ref_symbol_45 ?_
        refine lv_iload_n hx hb d_Ref_symbol_48 rfl (lv_at hl 1 rfl) ?_
        obtain ⟨h4, hf⟩ := x_gd hf
        refine x_iast (w1 := [(a_D, .inr (6, [.int D_symbols, .ref a_D_types, .ref a_D_sortOf, .int D_sorts, .int D_rules, .int D_isOpen, .ref a_D_makes, .ref a_D_starts, .ref a_D_told, .int D_all, .ref a_D_row, .int D_length, .ref a_D_many, .ref a_D_ways, .ref a_D_base, .int (0 : Int32), .int D_foundLimit, .int D_nodes, .ref a_D_ruleOf, .ref a_D_sortAt, .ref a_D_from, .ref a_D_upTo, .ref a_D_firsts, .ref a_D_parts, .ref a_D_variables, .ref a_D_order, .ref a_D_pile, .ref a_D_next])), (a_D_types, .inl (cI, 1000, .inl (upd D_types D_symbols.toNatClampNeg p1))), (a_D_sortOf, .inl (cI, 1000, .inl D_sortOf))]) hx hb hK.1 hP hD hS 1 0 rfl rfl h4 d_Ref_symbol_49 rfl (fun H locs hP hD hS => ?_)
        refine lv_aload_n hx hb d_Ref_symbol_50 rfl (lv_at hl 0 rfl) ?_
        refine lv_dup hx hb d_Ref_symbol_51 rfl ?_
        refine va_get (D := (dC, dI)) (ci := 6) (v := .int D_symbols) (C := "SyntaxTreesModel") (T := F_Ref) (N := 28) hx hb hts (fun w h => List.mem_cons_of_mem _ (in_Ref w h)) hown hK.1 hP 0 rfl rfl 0 (by decide +kernel) (hts _ (List.mem_cons_of_mem _ m_507)) (fun _ h9 => h9) rfl d_Ref_symbol_52 ?_
        refine lv_iconst (v := (1 : Int32)) hx hb d_Ref_symbol_55 (by decide +kernel) ?_
        refine lv_iadd hx hb d_Ref_symbol_56 ?_
        refine x_put (D := (dC, dI)) (ci := 6) (v := .int (D_symbols + (1 : Int32))) (ty := .int) (C := "SyntaxTreesModel") (T := F_Ref) (N := 28) (w1 := [(a_D, .inr (6, [.int (D_symbols + (1 : Int32)), .ref a_D_types, .ref a_D_sortOf, .int D_sorts, .int D_rules, .int D_isOpen, .ref a_D_makes, .ref a_D_starts, .ref a_D_told, .int D_all, .ref a_D_row, .int D_length, .ref a_D_many, .ref a_D_ways, .ref a_D_base, .int (0 : Int32), .int D_foundLimit, .int D_nodes, .ref a_D_ruleOf, .ref a_D_sortAt, .ref a_D_from, .ref a_D_upTo, .ref a_D_firsts, .ref a_D_parts, .ref a_D_variables, .ref a_D_order, .ref a_D_pile, .ref a_D_next])), (a_D_types, .inl (cI, 1000, .inl (upd D_types D_symbols.toNatClampNeg p1))), (a_D_sortOf, .inl (cI, 1000, .inl D_sortOf))]) hx hb hts (fun w h => List.mem_cons_of_mem _ (in_Ref w h)) t_Ref t_Ref_ok n_Ref hown hK.1 hP hD hS 0 rfl rfl 0 (by decide +kernel) (hts _ (List.mem_cons_of_mem _ m_507)) (fun _ h9 => h9) rfl (by decide +kernel) rfl rfl (Nat.le_of_ble_eq_true rfl) d_Ref_symbol_57 rfl (fun H locs hP hD hS => ?_)
        refine lv_aload_n hx hb d_Ref_symbol_60 rfl (lv_at hl 0 rfl) ?_
        refine va_get (D := (dC, dI)) (ci := 6) (v := .int (D_symbols + (1 : Int32))) (C := "SyntaxTreesModel") (T := F_Ref) (N := 28) hx hb hts (fun w h => List.mem_cons_of_mem _ (in_Ref w h)) hown hK.1 hP 0 rfl rfl 0 (by decide +kernel) (hts _ (List.mem_cons_of_mem _ m_507)) (fun _ h9 => h9) rfl d_Ref_symbol_61 ?_
        refine lv_iconst (v := (1 : Int32)) hx hb d_Ref_symbol_64 (by decide +kernel) ?_
        refine lv_isub hx hb d_Ref_symbol_65 ?_
        cases hf
        subst hQ
        exact W.iret hx hb hr (fun t ht _ => ⟨⟨_, (), rfl, rfl, by rw [ht]; exact hP, hD⟩, hS.F ht⟩) hS.2.2 d_Ref_symbol_66
      · have hf := x_neg c3 hf
        refine lv_aload_n hx hb d_Ref_symbol_35 rfl (lv_at hl 0 rfl) ?_
        refine lv_iload_n hx hb d_Ref_symbol_36 rfl (lv_at hl 1 rfl) ?_
        obtain ⟨x5, hx5, hf⟩ := x_bd hf
        refine x_wrvV (As := [.int p1]) (rest := []) (wc := [(a_D, .inr (6, [.int D_symbols, .ref a_D_types, .ref a_D_sortOf, .int D_sorts, .int D_rules, .int D_isOpen, .ref a_D_makes, .ref a_D_starts, .ref a_D_told, .int D_all, .ref a_D_row, .int D_length, .ref a_D_many, .ref a_D_ways, .ref a_D_base, .int (0 : Int32), .int D_foundLimit, .int D_nodes, .ref a_D_ruleOf, .ref a_D_sortAt, .ref a_D_from, .ref a_D_upTo, .ref a_D_firsts, .ref a_D_parts, .ref a_D_variables, .ref a_D_order, .ref a_D_pile, .ref a_D_next])), (a_D_sortOf, .inl (cI, 1000, .inl D_sortOf))]) (wr := [(a_D_types, .inl (cI, 1000, .inl D_types))]) (w1 := [(a_D, .inr (6, [.int D_symbols, .ref a_D_types, .ref a_D_sortOf, .int x5.1, .int D_rules, .int D_isOpen, .ref a_D_makes, .ref a_D_starts, .ref a_D_told, .int D_all, .ref a_D_row, .int D_length, .ref a_D_many, .ref a_D_ways, .ref a_D_base, .int (0 : Int32), .int D_foundLimit, .int D_nodes, .ref a_D_ruleOf, .ref a_D_sortAt, .ref a_D_from, .ref a_D_upTo, .ref a_D_firsts, .ref a_D_parts, .ref a_D_variables, .ref a_D_order, .ref a_D_pile, .ref a_D_next])), (a_D_sortOf, .inl (cI, 1000, .inl x5.2))]) (wf := [(a_D, .inr (6, [.int D_symbols, .ref a_D_types, .ref a_D_sortOf, .int x5.1, .int D_rules, .int D_isOpen, .ref a_D_makes, .ref a_D_starts, .ref a_D_told, .int D_all, .ref a_D_row, .int D_length, .ref a_D_many, .ref a_D_ways, .ref a_D_base, .int (0 : Int32), .int D_foundLimit, .int D_nodes, .ref a_D_ruleOf, .ref a_D_sortAt, .ref a_D_from, .ref a_D_upTo, .ref a_D_firsts, .ref a_D_parts, .ref a_D_variables, .ref a_D_order, .ref a_D_pile, .ref a_D_next])), (a_D_types, .inl (cI, 1000, .inl D_types)), (a_D_sortOf, .inl (cI, 1000, .inl x5.2))]) ⟨hx, hb, hml, hown, hts⟩ (c_Ref_becomesSort l dC dI cI cJ cB a_D a_D_types a_D_sortOf a_D_makes a_D_starts a_D_told a_D_row a_D_many a_D_ways a_D_base a_D_ruleOf a_D_sortAt a_D_from a_D_upTo a_D_firsts a_D_parts a_D_variables a_D_order a_D_pile a_D_next D_symbols D_sorts D_rules D_isOpen D_all D_length (0 : Int32) D_foundLimit D_nodes D_sortOf p1 H.size n x5 hx5) (cwV 1 hts (x_gV m_577 m_578 m_30 m_48 m_579) rfl rfl rfl hd_Ref_becomesSort ⟨Nat.le_of_ble_eq_true rfl, Nat.le_of_ble_eq_true rfl⟩) hK hP hD hS hA [0, 2] [1] [1, 0, 2] rfl rfl rfl (by decide +kernel) (by decide +kernel) (by decide +kernel) (by decide +kernel) (ci := 6) (q0 := 0) rfl rfl rfl rfl hl.1 rfl (Nat.le_of_ble_eq_true rfl) d_Ref_symbol_37 ⟨Nat.le_of_ble_eq_true rfl, Nat.le_of_ble_eq_true rfl⟩ (fun H locs hP hD hS => ?_)
        refine lv_aload_n hx hb d_Ref_symbol_40 rfl (lv_at hl 0 rfl) ?_
        refine va_get (D := (dC, dI)) (ci := 6) (v := .ref a_D_types) (C := "SyntaxTreesModel") (T := F_Ref) (N := 28) hx hb hts (fun w h => List.mem_cons_of_mem _ (in_Ref w h)) hown hK.1 hP 0 rfl rfl 1 (by decide +kernel) (hts _ (List.mem_cons_of_mem _ m_508)) (fun _ h9 => h9) rfl d_Ref_symbol_41 ?_
        refine lv_aload_n hx hb d_Ref_symbol_44 rfl (lv_at hl 0 rfl) ?_
        refine va_get (D := (dC, dI)) (ci := 6) (v := .int D_symbols) (C := "SyntaxTreesModel") (T := F_Ref) (N := 28) hx hb hts (fun w h => List.mem_cons_of_mem _ (in_Ref w h)) hown hK.1 hP 0 rfl rfl 0 (by decide +kernel) (hts _ (List.mem_cons_of_mem _ m_507)) (fun _ h9 => h9) rfl d_Ref_symbol_45 ?_
        refine lv_iload_n hx hb d_Ref_symbol_48 rfl (lv_at hl 1 rfl) ?_
        obtain ⟨h6, hf⟩ := x_gd hf
        refine x_iast (w1 := [(a_D, .inr (6, [.int D_symbols, .ref a_D_types, .ref a_D_sortOf, .int x5.1, .int D_rules, .int D_isOpen, .ref a_D_makes, .ref a_D_starts, .ref a_D_told, .int D_all, .ref a_D_row, .int D_length, .ref a_D_many, .ref a_D_ways, .ref a_D_base, .int (0 : Int32), .int D_foundLimit, .int D_nodes, .ref a_D_ruleOf, .ref a_D_sortAt, .ref a_D_from, .ref a_D_upTo, .ref a_D_firsts, .ref a_D_parts, .ref a_D_variables, .ref a_D_order, .ref a_D_pile, .ref a_D_next])), (a_D_types, .inl (cI, 1000, .inl (upd D_types D_symbols.toNatClampNeg p1))), (a_D_sortOf, .inl (cI, 1000, .inl x5.2))]) hx hb hK.1 hP hD hS 1 0 rfl rfl h6 d_Ref_symbol_49 rfl (fun H locs hP hD hS => ?_)
        refine lv_aload_n hx hb d_Ref_symbol_50 rfl (lv_at hl 0 rfl) ?_
        refine lv_dup hx hb d_Ref_symbol_51 rfl ?_
        refine va_get (D := (dC, dI)) (ci := 6) (v := .int D_symbols) (C := "SyntaxTreesModel") (T := F_Ref) (N := 28) hx hb hts (fun w h => List.mem_cons_of_mem _ (in_Ref w h)) hown hK.1 hP 0 rfl rfl 0 (by decide +kernel) (hts _ (List.mem_cons_of_mem _ m_507)) (fun _ h9 => h9) rfl d_Ref_symbol_52 ?_
        refine lv_iconst (v := (1 : Int32)) hx hb d_Ref_symbol_55 (by decide +kernel) ?_
        refine lv_iadd hx hb d_Ref_symbol_56 ?_
        refine x_put (D := (dC, dI)) (ci := 6) (v := .int (D_symbols + (1 : Int32))) (ty := .int) (C := "SyntaxTreesModel") (T := F_Ref) (N := 28) (w1 := [(a_D, .inr (6, [.int (D_symbols + (1 : Int32)), .ref a_D_types, .ref a_D_sortOf, .int x5.1, .int D_rules, .int D_isOpen, .ref a_D_makes, .ref a_D_starts, .ref a_D_told, .int D_all, .ref a_D_row, .int D_length, .ref a_D_many, .ref a_D_ways, .ref a_D_base, .int (0 : Int32), .int D_foundLimit, .int D_nodes, .ref a_D_ruleOf, .ref a_D_sortAt, .ref a_D_from, .ref a_D_upTo, .ref a_D_firsts, .ref a_D_parts, .ref a_D_variables, .ref a_D_order, .ref a_D_pile, .ref a_D_next])), (a_D_types, .inl (cI, 1000, .inl (upd D_types D_symbols.toNatClampNeg p1))), (a_D_sortOf, .inl (cI, 1000, .inl x5.2))]) hx hb hts (fun w h => List.mem_cons_of_mem _ (in_Ref w h)) t_Ref t_Ref_ok n_Ref hown hK.1 hP hD hS 0 rfl rfl 0 (by decide +kernel) (hts _ (List.mem_cons_of_mem _ m_507)) (fun _ h9 => h9) rfl (by decide +kernel) rfl rfl (Nat.le_of_ble_eq_true rfl) d_Ref_symbol_57 rfl (fun H locs hP hD hS => ?_)
        refine lv_aload_n hx hb d_Ref_symbol_60 rfl (lv_at hl 0 rfl) ?_
        refine va_get (D := (dC, dI)) (ci := 6) (v := .int (D_symbols + (1 : Int32))) (C := "SyntaxTreesModel") (T := F_Ref) (N := 28) hx hb hts (fun w h => List.mem_cons_of_mem _ (in_Ref w h)) hown hK.1 hP 0 rfl rfl 0 (by decide +kernel) (hts _ (List.mem_cons_of_mem _ m_507)) (fun _ h9 => h9) rfl d_Ref_symbol_61 ?_
        refine lv_iconst (v := (1 : Int32)) hx hb d_Ref_symbol_64 (by decide +kernel) ?_
        refine lv_isub hx hb d_Ref_symbol_65 ?_
        cases hf
        subst hQ
        exact W.iret hx hb hr (fun t ht _ => ⟨⟨_, (), rfl, rfl, by rw [ht]; exact hP, hD⟩, hS.F ht⟩) hS.2.2 d_Ref_symbol_66
    · have hf := x_neg c2 hf
      refine lv_aload_n hx hb d_Ref_symbol_15 rfl (lv_at hl 0 rfl) ?_
      refine lv_iload_n hx hb d_Ref_symbol_16 rfl (lv_at hl 1 rfl) ?_
      obtain ⟨x7, hx7, hf⟩ := x_bd hf
      refine x_rdiV (As := [.int p1]) (rest := []) (wc := [(a_D, .inr (6, [.int D_symbols, .ref a_D_types, .ref a_D_sortOf, .int D_sorts, .int D_rules, .int D_isOpen, .ref a_D_makes, .ref a_D_starts, .ref a_D_told, .int D_all, .ref a_D_row, .int D_length, .ref a_D_many, .ref a_D_ways, .ref a_D_base, .int D_isFound, .int D_foundLimit, .int D_nodes, .ref a_D_ruleOf, .ref a_D_sortAt, .ref a_D_from, .ref a_D_upTo, .ref a_D_firsts, .ref a_D_parts, .ref a_D_variables, .ref a_D_order, .ref a_D_pile, .ref a_D_next])), (a_D_types, .inl (cI, 1000, .inl D_types)), (a_D_sortOf, .inl (cI, 1000, .inl D_sortOf))]) ⟨hx, hb, hml, hown, hts⟩ (c_Ref_canBeSort l dC dI cI cJ cB a_D a_D_types a_D_sortOf a_D_makes a_D_starts a_D_told a_D_row a_D_many a_D_ways a_D_base a_D_ruleOf a_D_sortAt a_D_from a_D_upTo a_D_firsts a_D_parts a_D_variables a_D_order a_D_pile a_D_next D_symbols D_sorts D_rules D_isOpen D_all D_length D_isFound D_foundLimit D_nodes D_types D_sortOf p1 n x7 hx7) (cwV 1 hts (x_gV m_568 m_569 m_27 m_48 m_570) rfl rfl rfl hd_Ref_canBeSort ⟨Nat.le_of_ble_eq_true rfl, Nat.le_of_ble_eq_true rfl⟩) hK hP [0, 1, 2] rfl (ci := 6) (q0 := 0) rfl rfl rfl rfl hl.1 rfl (Nat.le_of_ble_eq_true rfl) d_Ref_symbol_17 ⟨Nat.le_of_ble_eq_true rfl, Nat.le_of_ble_eq_true rfl⟩ ?_
      refine lv_if_ne (tgt := 25) hx hb d_Ref_symbol_20 (by decide +kernel) (fun c8 => ?_) (fun c8 => ?_)
      · have hf := x_neg c8 hf
        refine lv_aload_n hx hb d_Ref_symbol_25 rfl (lv_at hl 0 rfl) ?_
        refine lv_iconst (v := (0 : Int32)) hx hb d_Ref_symbol_26 (by decide +kernel) ?_
        refine x_put (D := (dC, dI)) (ci := 6) (v := .int (0 : Int32)) (ty := .boolean) (C := "SyntaxTreesModel") (T := F_Ref) (N := 28) (w1 := [(a_D, .inr (6, [.int D_symbols, .ref a_D_types, .ref a_D_sortOf, .int D_sorts, .int D_rules, .int D_isOpen, .ref a_D_makes, .ref a_D_starts, .ref a_D_told, .int D_all, .ref a_D_row, .int D_length, .ref a_D_many, .ref a_D_ways, .ref a_D_base, .int (0 : Int32), .int D_foundLimit, .int D_nodes, .ref a_D_ruleOf, .ref a_D_sortAt, .ref a_D_from, .ref a_D_upTo, .ref a_D_firsts, .ref a_D_parts, .ref a_D_variables, .ref a_D_order, .ref a_D_pile, .ref a_D_next])), (a_D_types, .inl (cI, 1000, .inl D_types)), (a_D_sortOf, .inl (cI, 1000, .inl D_sortOf))]) hx hb hts (fun w h => List.mem_cons_of_mem _ (in_Ref w h)) t_Ref t_Ref_ok n_Ref hown hK.1 hP hD hS 0 rfl rfl 15 (by decide +kernel) (hts _ (List.mem_cons_of_mem _ m_522)) (fun _ h9 => h9) rfl (by decide +kernel) rfl rfl (Nat.le_of_ble_eq_true rfl) d_Ref_symbol_27 rfl (fun H locs hP hD hS => ?_)
        refine lv_iload_n hx hb d_Ref_symbol_30 rfl (lv_at hl 1 rfl) ?_
        refine lv_iconst (v := (-1 : Int32)) hx hb d_Ref_symbol_31 (by decide +kernel) ?_
        refine lv_icmp_eq (tgt := 40) hx hb d_Ref_symbol_32 (by decide +kernel) (fun c9 => ?_) (fun c9 => ?_)
        · have hf := x_pos c9 hf
          refine lv_aload_n hx hb d_Ref_symbol_40 rfl (lv_at hl 0 rfl) ?_
          refine va_get (D := (dC, dI)) (ci := 6) (v := .ref a_D_types) (C := "SyntaxTreesModel") (T := F_Ref) (N := 28) hx hb hts (fun w h => List.mem_cons_of_mem _ (in_Ref w h)) hown hK.1 hP 0 rfl rfl 1 (by decide +kernel) (hts _ (List.mem_cons_of_mem _ m_508)) (fun _ h9 => h9) rfl d_Ref_symbol_41 ?_
          refine lv_aload_n hx hb d_Ref_symbol_44 rfl (lv_at hl 0 rfl) ?_
          refine va_get (D := (dC, dI)) (ci := 6) (v := .int D_symbols) (C := "SyntaxTreesModel") (T := F_Ref) (N := 28) hx hb hts (fun w h => List.mem_cons_of_mem _ (in_Ref w h)) hown hK.1 hP 0 rfl rfl 0 (by decide +kernel) (hts _ (List.mem_cons_of_mem _ m_507)) (fun _ h9 => h9) rfl d_Ref_symbol_45 ?_
          refine lv_iload_n hx hb d_Ref_symbol_48 rfl (lv_at hl 1 rfl) ?_
          obtain ⟨h10, hf⟩ := x_gd hf
          refine x_iast (w1 := [(a_D, .inr (6, [.int D_symbols, .ref a_D_types, .ref a_D_sortOf, .int D_sorts, .int D_rules, .int D_isOpen, .ref a_D_makes, .ref a_D_starts, .ref a_D_told, .int D_all, .ref a_D_row, .int D_length, .ref a_D_many, .ref a_D_ways, .ref a_D_base, .int (0 : Int32), .int D_foundLimit, .int D_nodes, .ref a_D_ruleOf, .ref a_D_sortAt, .ref a_D_from, .ref a_D_upTo, .ref a_D_firsts, .ref a_D_parts, .ref a_D_variables, .ref a_D_order, .ref a_D_pile, .ref a_D_next])), (a_D_types, .inl (cI, 1000, .inl (upd D_types D_symbols.toNatClampNeg p1))), (a_D_sortOf, .inl (cI, 1000, .inl D_sortOf))]) hx hb hK.1 hP hD hS 1 0 rfl rfl h10 d_Ref_symbol_49 rfl (fun H locs hP hD hS => ?_)
          refine lv_aload_n hx hb d_Ref_symbol_50 rfl (lv_at hl 0 rfl) ?_
          refine lv_dup hx hb d_Ref_symbol_51 rfl ?_
          refine va_get (D := (dC, dI)) (ci := 6) (v := .int D_symbols) (C := "SyntaxTreesModel") (T := F_Ref) (N := 28) hx hb hts (fun w h => List.mem_cons_of_mem _ (in_Ref w h)) hown hK.1 hP 0 rfl rfl 0 (by decide +kernel) (hts _ (List.mem_cons_of_mem _ m_507)) (fun _ h9 => h9) rfl d_Ref_symbol_52 ?_
          refine lv_iconst (v := (1 : Int32)) hx hb d_Ref_symbol_55 (by decide +kernel) ?_
          refine lv_iadd hx hb d_Ref_symbol_56 ?_
          refine x_put (D := (dC, dI)) (ci := 6) (v := .int (D_symbols + (1 : Int32))) (ty := .int) (C := "SyntaxTreesModel") (T := F_Ref) (N := 28) (w1 := [(a_D, .inr (6, [.int (D_symbols + (1 : Int32)), .ref a_D_types, .ref a_D_sortOf, .int D_sorts, .int D_rules, .int D_isOpen, .ref a_D_makes, .ref a_D_starts, .ref a_D_told, .int D_all, .ref a_D_row, .int D_length, .ref a_D_many, .ref a_D_ways, .ref a_D_base, .int (0 : Int32), .int D_foundLimit, .int D_nodes, .ref a_D_ruleOf, .ref a_D_sortAt, .ref a_D_from, .ref a_D_upTo, .ref a_D_firsts, .ref a_D_parts, .ref a_D_variables, .ref a_D_order, .ref a_D_pile, .ref a_D_next])), (a_D_types, .inl (cI, 1000, .inl (upd D_types D_symbols.toNatClampNeg p1))), (a_D_sortOf, .inl (cI, 1000, .inl D_sortOf))]) hx hb hts (fun w h => List.mem_cons_of_mem _ (in_Ref w h)) t_Ref t_Ref_ok n_Ref hown hK.1 hP hD hS 0 rfl rfl 0 (by decide +kernel) (hts _ (List.mem_cons_of_mem _ m_507)) (fun _ h9 => h9) rfl (by decide +kernel) rfl rfl (Nat.le_of_ble_eq_true rfl) d_Ref_symbol_57 rfl (fun H locs hP hD hS => ?_)
          refine lv_aload_n hx hb d_Ref_symbol_60 rfl (lv_at hl 0 rfl) ?_
          refine va_get (D := (dC, dI)) (ci := 6) (v := .int (D_symbols + (1 : Int32))) (C := "SyntaxTreesModel") (T := F_Ref) (N := 28) hx hb hts (fun w h => List.mem_cons_of_mem _ (in_Ref w h)) hown hK.1 hP 0 rfl rfl 0 (by decide +kernel) (hts _ (List.mem_cons_of_mem _ m_507)) (fun _ h9 => h9) rfl d_Ref_symbol_61 ?_
          refine lv_iconst (v := (1 : Int32)) hx hb d_Ref_symbol_64 (by decide +kernel) ?_
          refine lv_isub hx hb d_Ref_symbol_65 ?_
          cases hf
          subst hQ
          exact W.iret hx hb hr (fun t ht _ => ⟨⟨_, (), rfl, rfl, by rw [ht]; exact hP, hD⟩, hS.F ht⟩) hS.2.2 d_Ref_symbol_66
        · have hf := x_neg c9 hf
          refine lv_aload_n hx hb d_Ref_symbol_35 rfl (lv_at hl 0 rfl) ?_
          refine lv_iload_n hx hb d_Ref_symbol_36 rfl (lv_at hl 1 rfl) ?_
          obtain ⟨x11, hx11, hf⟩ := x_bd hf
          refine x_wrvV (As := [.int p1]) (rest := []) (wc := [(a_D, .inr (6, [.int D_symbols, .ref a_D_types, .ref a_D_sortOf, .int D_sorts, .int D_rules, .int D_isOpen, .ref a_D_makes, .ref a_D_starts, .ref a_D_told, .int D_all, .ref a_D_row, .int D_length, .ref a_D_many, .ref a_D_ways, .ref a_D_base, .int (0 : Int32), .int D_foundLimit, .int D_nodes, .ref a_D_ruleOf, .ref a_D_sortAt, .ref a_D_from, .ref a_D_upTo, .ref a_D_firsts, .ref a_D_parts, .ref a_D_variables, .ref a_D_order, .ref a_D_pile, .ref a_D_next])), (a_D_sortOf, .inl (cI, 1000, .inl D_sortOf))]) (wr := [(a_D_types, .inl (cI, 1000, .inl D_types))]) (w1 := [(a_D, .inr (6, [.int D_symbols, .ref a_D_types, .ref a_D_sortOf, .int x11.1, .int D_rules, .int D_isOpen, .ref a_D_makes, .ref a_D_starts, .ref a_D_told, .int D_all, .ref a_D_row, .int D_length, .ref a_D_many, .ref a_D_ways, .ref a_D_base, .int (0 : Int32), .int D_foundLimit, .int D_nodes, .ref a_D_ruleOf, .ref a_D_sortAt, .ref a_D_from, .ref a_D_upTo, .ref a_D_firsts, .ref a_D_parts, .ref a_D_variables, .ref a_D_order, .ref a_D_pile, .ref a_D_next])), (a_D_sortOf, .inl (cI, 1000, .inl x11.2))]) (wf := [(a_D, .inr (6, [.int D_symbols, .ref a_D_types, .ref a_D_sortOf, .int x11.1, .int D_rules, .int D_isOpen, .ref a_D_makes, .ref a_D_starts, .ref a_D_told, .int D_all, .ref a_D_row, .int D_length, .ref a_D_many, .ref a_D_ways, .ref a_D_base, .int (0 : Int32), .int D_foundLimit, .int D_nodes, .ref a_D_ruleOf, .ref a_D_sortAt, .ref a_D_from, .ref a_D_upTo, .ref a_D_firsts, .ref a_D_parts, .ref a_D_variables, .ref a_D_order, .ref a_D_pile, .ref a_D_next])), (a_D_types, .inl (cI, 1000, .inl D_types)), (a_D_sortOf, .inl (cI, 1000, .inl x11.2))]) ⟨hx, hb, hml, hown, hts⟩ (c_Ref_becomesSort l dC dI cI cJ cB a_D a_D_types a_D_sortOf a_D_makes a_D_starts a_D_told a_D_row a_D_many a_D_ways a_D_base a_D_ruleOf a_D_sortAt a_D_from a_D_upTo a_D_firsts a_D_parts a_D_variables a_D_order a_D_pile a_D_next D_symbols D_sorts D_rules D_isOpen D_all D_length (0 : Int32) D_foundLimit D_nodes D_sortOf p1 H.size n x11 hx11) (cwV 1 hts (x_gV m_577 m_578 m_30 m_48 m_579) rfl rfl rfl hd_Ref_becomesSort ⟨Nat.le_of_ble_eq_true rfl, Nat.le_of_ble_eq_true rfl⟩) hK hP hD hS hA [0, 2] [1] [1, 0, 2] rfl rfl rfl (by decide +kernel) (by decide +kernel) (by decide +kernel) (by decide +kernel) (ci := 6) (q0 := 0) rfl rfl rfl rfl hl.1 rfl (Nat.le_of_ble_eq_true rfl) d_Ref_symbol_37 ⟨Nat.le_of_ble_eq_true rfl, Nat.le_of_ble_eq_true rfl⟩ (fun H locs hP hD hS => ?_)
          refine lv_aload_n hx hb d_Ref_symbol_40 rfl (lv_at hl 0 rfl) ?_
          refine va_get (D := (dC, dI)) (ci := 6) (v := .ref a_D_types) (C := "SyntaxTreesModel") (T := F_Ref) (N := 28) hx hb hts (fun w h => List.mem_cons_of_mem _ (in_Ref w h)) hown hK.1 hP 0 rfl rfl 1 (by decide +kernel) (hts _ (List.mem_cons_of_mem _ m_508)) (fun _ h9 => h9) rfl d_Ref_symbol_41 ?_
          refine lv_aload_n hx hb d_Ref_symbol_44 rfl (lv_at hl 0 rfl) ?_
          refine va_get (D := (dC, dI)) (ci := 6) (v := .int D_symbols) (C := "SyntaxTreesModel") (T := F_Ref) (N := 28) hx hb hts (fun w h => List.mem_cons_of_mem _ (in_Ref w h)) hown hK.1 hP 0 rfl rfl 0 (by decide +kernel) (hts _ (List.mem_cons_of_mem _ m_507)) (fun _ h9 => h9) rfl d_Ref_symbol_45 ?_
          refine lv_iload_n hx hb d_Ref_symbol_48 rfl (lv_at hl 1 rfl) ?_
          obtain ⟨h12, hf⟩ := x_gd hf
          refine x_iast (w1 := [(a_D, .inr (6, [.int D_symbols, .ref a_D_types, .ref a_D_sortOf, .int x11.1, .int D_rules, .int D_isOpen, .ref a_D_makes, .ref a_D_starts, .ref a_D_told, .int D_all, .ref a_D_row, .int D_length, .ref a_D_many, .ref a_D_ways, .ref a_D_base, .int (0 : Int32), .int D_foundLimit, .int D_nodes, .ref a_D_ruleOf, .ref a_D_sortAt, .ref a_D_from, .ref a_D_upTo, .ref a_D_firsts, .ref a_D_parts, .ref a_D_variables, .ref a_D_order, .ref a_D_pile, .ref a_D_next])), (a_D_types, .inl (cI, 1000, .inl (upd D_types D_symbols.toNatClampNeg p1))), (a_D_sortOf, .inl (cI, 1000, .inl x11.2))]) hx hb hK.1 hP hD hS 1 0 rfl rfl h12 d_Ref_symbol_49 rfl (fun H locs hP hD hS => ?_)
          refine lv_aload_n hx hb d_Ref_symbol_50 rfl (lv_at hl 0 rfl) ?_
          refine lv_dup hx hb d_Ref_symbol_51 rfl ?_
          refine va_get (D := (dC, dI)) (ci := 6) (v := .int D_symbols) (C := "SyntaxTreesModel") (T := F_Ref) (N := 28) hx hb hts (fun w h => List.mem_cons_of_mem _ (in_Ref w h)) hown hK.1 hP 0 rfl rfl 0 (by decide +kernel) (hts _ (List.mem_cons_of_mem _ m_507)) (fun _ h9 => h9) rfl d_Ref_symbol_52 ?_
          refine lv_iconst (v := (1 : Int32)) hx hb d_Ref_symbol_55 (by decide +kernel) ?_
          refine lv_iadd hx hb d_Ref_symbol_56 ?_
          refine x_put (D := (dC, dI)) (ci := 6) (v := .int (D_symbols + (1 : Int32))) (ty := .int) (C := "SyntaxTreesModel") (T := F_Ref) (N := 28) (w1 := [(a_D, .inr (6, [.int (D_symbols + (1 : Int32)), .ref a_D_types, .ref a_D_sortOf, .int x11.1, .int D_rules, .int D_isOpen, .ref a_D_makes, .ref a_D_starts, .ref a_D_told, .int D_all, .ref a_D_row, .int D_length, .ref a_D_many, .ref a_D_ways, .ref a_D_base, .int (0 : Int32), .int D_foundLimit, .int D_nodes, .ref a_D_ruleOf, .ref a_D_sortAt, .ref a_D_from, .ref a_D_upTo, .ref a_D_firsts, .ref a_D_parts, .ref a_D_variables, .ref a_D_order, .ref a_D_pile, .ref a_D_next])), (a_D_types, .inl (cI, 1000, .inl (upd D_types D_symbols.toNatClampNeg p1))), (a_D_sortOf, .inl (cI, 1000, .inl x11.2))]) hx hb hts (fun w h => List.mem_cons_of_mem _ (in_Ref w h)) t_Ref t_Ref_ok n_Ref hown hK.1 hP hD hS 0 rfl rfl 0 (by decide +kernel) (hts _ (List.mem_cons_of_mem _ m_507)) (fun _ h9 => h9) rfl (by decide +kernel) rfl rfl (Nat.le_of_ble_eq_true rfl) d_Ref_symbol_57 rfl (fun H locs hP hD hS => ?_)
          refine lv_aload_n hx hb d_Ref_symbol_60 rfl (lv_at hl 0 rfl) ?_
          refine va_get (D := (dC, dI)) (ci := 6) (v := .int (D_symbols + (1 : Int32))) (C := "SyntaxTreesModel") (T := F_Ref) (N := 28) hx hb hts (fun w h => List.mem_cons_of_mem _ (in_Ref w h)) hown hK.1 hP 0 rfl rfl 0 (by decide +kernel) (hts _ (List.mem_cons_of_mem _ m_507)) (fun _ h9 => h9) rfl d_Ref_symbol_61 ?_
          refine lv_iconst (v := (1 : Int32)) hx hb d_Ref_symbol_64 (by decide +kernel) ?_
          refine lv_isub hx hb d_Ref_symbol_65 ?_
          cases hf
          subst hQ
          exact W.iret hx hb hr (fun t ht _ => ⟨⟨_, (), rfl, rfl, by rw [ht]; exact hP, hD⟩, hS.F ht⟩) hS.2.2 d_Ref_symbol_66
      · have hf := x_pos c8 hf
        refine lv_iconst (v := (-1 : Int32)) hx hb d_Ref_symbol_23 (by decide +kernel) ?_
        cases hf
        subst hQ
        exact W.iret hx hb hr (fun t ht _ => ⟨⟨_, (), rfl, rfl, by rw [ht]; exact hP, hD⟩, hS.F ht⟩) hS.2.2 d_Ref_symbol_24
set_option maxHeartbeats 4000000 in
set_option maxRecDepth 100000 in
theorem c_Ref_begin (l : Launch) (dC : Nat → ClassId) (dI : Nat → Nat → Nat) (cI cJ cB : ClassId) (a_D a_D_types a_D_sortOf a_D_makes a_D_starts a_D_told a_D_row a_D_many a_D_ways a_D_base a_D_ruleOf a_D_sortAt a_D_from a_D_upTo a_D_firsts a_D_parts a_D_variables a_D_order a_D_pile a_D_next : Nat)  (D_symbols : Int32) (D_sorts : Int32) (D_rules : Int32) (D_isOpen : Int32) (D_all : Int32) (D_length : Int32) (D_isFound : Int32) (D_foundLimit : Int32) (D_nodes : Int32) (D_types : Nat → Int32) (D_sortOf : Nat → Int32) (D_makes : Nat → Int32) (D_starts : Nat → Int32) (p1 : Int32) (sz : Nat) (n : Nat) (o : Int32 × Int32 × Int32 × Int32 × (Nat → Int32) × (Nat → Int32) × (Nat → Int32)) (hf : f_Ref_begin n D_symbols D_sorts D_rules D_isOpen D_all D_isFound D_types D_sortOf D_makes D_starts p1 = some o) : Met l y_Ref_begin w_Ref_begin ({ frames := 3, cells := 0, slots := 0, locals := 63 }) (va_Pc [.ref a_D, .int p1] (fun U => U.heap.size = sz ∧ va_P (dC, dI) vwCl [(a_D, .inr (6, [.int D_symbols, .ref a_D_types, .ref a_D_sortOf, .int D_sorts, .int D_rules, .int D_isOpen, .ref a_D_makes, .ref a_D_starts, .ref a_D_told, .int D_all, .ref a_D_row, .int D_length, .ref a_D_many, .ref a_D_ways, .ref a_D_base, .int D_isFound, .int D_foundLimit, .int D_nodes, .ref a_D_ruleOf, .ref a_D_sortAt, .ref a_D_from, .ref a_D_upTo, .ref a_D_firsts, .ref a_D_parts, .ref a_D_variables, .ref a_D_order, .ref a_D_pile, .ref a_D_next])), (a_D_types, .inl (cI, 1000, .inl D_types)), (a_D_sortOf, .inl (cI, 1000, .inl D_sortOf)), (a_D_makes, .inl (cI, 1500, .inl D_makes)), (a_D_starts, .inl (cI, 1501, .inl D_starts))] U.heap ∧ x_K (dC, dI) [(cI, .int), (cJ, .long), (cB, .byte)] U ∧ va_D (fun _ => True) [(a_D, .inr (6, [.int D_symbols, .ref a_D_types, .ref a_D_sortOf, .int D_sorts, .int D_rules, .int D_isOpen, .ref a_D_makes, .ref a_D_starts, .ref a_D_told, .int D_all, .ref a_D_row, .int D_length, .ref a_D_many, .ref a_D_ways, .ref a_D_base, .int D_isFound, .int D_foundLimit, .int D_nodes, .ref a_D_ruleOf, .ref a_D_sortAt, .ref a_D_from, .ref a_D_upTo, .ref a_D_firsts, .ref a_D_parts, .ref a_D_variables, .ref a_D_order, .ref a_D_pile, .ref a_D_next])), (a_D_types, .inl (cI, 1000, .inl D_types)), (a_D_sortOf, .inl (cI, 1000, .inl D_sortOf)), (a_D_makes, .inl (cI, 1500, .inl D_makes)), (a_D_starts, .inl (cI, 1501, .inl D_starts))])) (va_Qi (fun r (_ : Unit) => r = o.1) (fun _ t => va_P (dC, dI) vwCl [(a_D, .inr (6, [.int D_symbols, .ref a_D_types, .ref a_D_sortOf, .int o.2.1, .int D_rules, .int o.2.2.1, .ref a_D_makes, .ref a_D_starts, .ref a_D_told, .int D_all, .ref a_D_row, .int D_length, .ref a_D_many, .ref a_D_ways, .ref a_D_base, .int o.2.2.2.1, .int D_foundLimit, .int D_nodes, .ref a_D_ruleOf, .ref a_D_sortAt, .ref a_D_from, .ref a_D_upTo, .ref a_D_firsts, .ref a_D_parts, .ref a_D_variables, .ref a_D_order, .ref a_D_pile, .ref a_D_next])), (a_D_types, .inl (cI, 1000, .inl D_types)), (a_D_sortOf, .inl (cI, 1000, .inl o.2.2.2.2.1)), (a_D_makes, .inl (cI, 1500, .inl o.2.2.2.2.2.1)), (a_D_starts, .inl (cI, 1501, .inl o.2.2.2.2.2.2))] t.heap ∧ va_D (va_A [(a_D, .inr (6, [.int D_symbols, .ref a_D_types, .ref a_D_sortOf, .int D_sorts, .int D_rules, .int D_isOpen, .ref a_D_makes, .ref a_D_starts, .ref a_D_told, .int D_all, .ref a_D_row, .int D_length, .ref a_D_many, .ref a_D_ways, .ref a_D_base, .int D_isFound, .int D_foundLimit, .int D_nodes, .ref a_D_ruleOf, .ref a_D_sortAt, .ref a_D_from, .ref a_D_upTo, .ref a_D_firsts, .ref a_D_parts, .ref a_D_variables, .ref a_D_order, .ref a_D_pile, .ref a_D_next])), (a_D_types, .inl (cI, 1000, .inl D_types)), (a_D_sortOf, .inl (cI, 1000, .inl D_sortOf)), (a_D_makes, .inl (cI, 1500, .inl D_makes)), (a_D_starts, .inl (cI, 1501, .inl D_starts))] sz) [(a_D, .inr (6, [.int D_symbols, .ref a_D_types, .ref a_D_sortOf, .int o.2.1, .int D_rules, .int o.2.2.1, .ref a_D_makes, .ref a_D_starts, .ref a_D_told, .int D_all, .ref a_D_row, .int D_length, .ref a_D_many, .ref a_D_ways, .ref a_D_base, .int o.2.2.2.1, .int D_foundLimit, .int D_nodes, .ref a_D_ruleOf, .ref a_D_sortAt, .ref a_D_from, .ref a_D_upTo, .ref a_D_firsts, .ref a_D_parts, .ref a_D_variables, .ref a_D_order, .ref a_D_pile, .ref a_D_next])), (a_D_types, .inl (cI, 1000, .inl D_types)), (a_D_sortOf, .inl (cI, 1000, .inl o.2.2.2.2.1)), (a_D_makes, .inl (cI, 1500, .inl o.2.2.2.2.2.1)), (a_D_starts, .inl (cI, 1501, .inl o.2.2.2.2.2.2))]) (va_A [(a_D, .inr (6, [.int D_symbols, .ref a_D_types, .ref a_D_sortOf, .int D_sorts, .int D_rules, .int D_isOpen, .ref a_D_makes, .ref a_D_starts, .ref a_D_told, .int D_all, .ref a_D_row, .int D_length, .ref a_D_many, .ref a_D_ways, .ref a_D_base, .int D_isFound, .int D_foundLimit, .int D_nodes, .ref a_D_ruleOf, .ref a_D_sortAt, .ref a_D_from, .ref a_D_upTo, .ref a_D_firsts, .ref a_D_parts, .ref a_D_variables, .ref a_D_order, .ref a_D_pile, .ref a_D_next])), (a_D_types, .inl (cI, 1000, .inl D_types)), (a_D_sortOf, .inl (cI, 1000, .inl D_sortOf)), (a_D_makes, .inl (cI, 1500, .inl D_makes)), (a_D_starts, .inl (cI, 1501, .inl D_starts))] sz)) 0 0 (va_A [(a_D, .inr (6, [.int D_symbols, .ref a_D_types, .ref a_D_sortOf, .int D_sorts, .int D_rules, .int D_isOpen, .ref a_D_makes, .ref a_D_starts, .ref a_D_told, .int D_all, .ref a_D_row, .int D_length, .ref a_D_many, .ref a_D_ways, .ref a_D_base, .int D_isFound, .int D_foundLimit, .int D_nodes, .ref a_D_ruleOf, .ref a_D_sortAt, .ref a_D_from, .ref a_D_upTo, .ref a_D_firsts, .ref a_D_parts, .ref a_D_variables, .ref a_D_order, .ref a_D_pile, .ref a_D_next])), (a_D_types, .inl (cI, 1000, .inl D_types)), (a_D_sortOf, .inl (cI, 1000, .inl D_sortOf)), (a_D_makes, .inl (cI, 1500, .inl D_makes)), (a_D_starts, .inl (cI, 1501, .inl D_starts))] sz) := by
  refine Met.ofW (cc := b_Ref_begin) (maxL := 2) (ret := (some .int)) (by decide +kernel) rfl ?_
  intro p e s m args below meth c s₁ B hml hv
  obtain ⟨rfl, hsz, hP, hK, hD0⟩ := hv
  have hx := B.exec
  have hb := B.bytes
  have hr := B.returns
  have hts := atoms_spec (ws := w_Ref_begin) B.pre
  have hown : s.vm.findClass "SyntaxTreesModel" = some m.cls := findClass_of_methodNamed B.named
  have hlocks := B.notSynchronized
  subst hsz
  have hD := hD0.self (sz := s.heap.size)
  generalize hAe : va_A [(a_D, .inr (6, [.int D_symbols, .ref a_D_types, .ref a_D_sortOf, .int D_sorts, .int D_rules, .int D_isOpen, .ref a_D_makes, .ref a_D_starts, .ref a_D_told, .int D_all, .ref a_D_row, .int D_length, .ref a_D_many, .ref a_D_ways, .ref a_D_base, .int D_isFound, .int D_foundLimit, .int D_nodes, .ref a_D_ruleOf, .ref a_D_sortAt, .ref a_D_from, .ref a_D_upTo, .ref a_D_firsts, .ref a_D_parts, .ref a_D_variables, .ref a_D_order, .ref a_D_pile, .ref a_D_next])), (a_D_types, .inl (cI, 1000, .inl D_types)), (a_D_sortOf, .inl (cI, 1000, .inl D_sortOf)), (a_D_makes, .inl (cI, 1500, .inl D_makes)), (a_D_starts, .inl (cI, 1501, .inl D_starts))] s.heap.size = A at hD ⊢
  have hA : ∀ q : Nat, s.heap.size ≤ q → A q := fun q h => by rw [← hAe]; exact Or.inr h
  have hS : va_S A s.heap s.heap [] := va_S.rf
  have hP : va_P (dC, dI) vwCl [(a_D, .inr (6, [.int D_symbols, .ref a_D_types, .ref a_D_sortOf, .int D_sorts, .int D_rules, .int D_isOpen, .ref a_D_makes, .ref a_D_starts, .ref a_D_told, .int D_all, .ref a_D_row, .int D_length, .ref a_D_many, .ref a_D_ways, .ref a_D_base, .int D_isFound, .int D_foundLimit, .int D_nodes, .ref a_D_ruleOf, .ref a_D_sortAt, .ref a_D_from, .ref a_D_upTo, .ref a_D_firsts, .ref a_D_parts, .ref a_D_variables, .ref a_D_order, .ref a_D_pile, .ref a_D_next])), (a_D_types, .inl (cI, 1000, .inl D_types)), (a_D_sortOf, .inl (cI, 1000, .inl D_sortOf)), (a_D_makes, .inl (cI, 1500, .inl D_makes)), (a_D_starts, .inl (cI, 1501, .inl D_starts))] s.heap := hP
  have hl := lv_entry ([.ref a_D, .int p1]) (n := 2) (Nat.le_of_ble_eq_true rfl)
  rw [lg_entry_eq]
  generalize (lg_sl ([.ref a_D, .int p1]) ++ List.replicate (2 - (lg_sl ([.ref a_D, .int p1])).length) Slot.unset).toArray = ls at hl ⊢
  have hl : lv_has ls 2 [(0, .ref a_D), (1, .int p1)] := hl
  refine x_Q (fun Q hQ => ?_)
  unfold f_Ref_begin at hf
  refine lv_aload_n hx hb d_Ref_begin_0 rfl (lv_at hl 0 rfl) ?_
  refine va_get (D := (dC, dI)) (ci := 6) (v := .int D_isOpen) (C := "SyntaxTreesModel") (T := F_Ref) (N := 28) hx hb hts (fun w h => List.mem_cons_of_mem _ (in_Ref w h)) hown hK.1 hP 0 rfl rfl 5 (by decide +kernel) (hts _ (List.mem_cons_of_mem _ m_512)) (fun _ h9 => h9) rfl d_Ref_begin_1 ?_
  refine lv_if_ne (tgt := 25) hx hb d_Ref_begin_4 (by decide +kernel) (fun c1 => ?_) (fun c1 => ?_)
  · have hf := x_neg c1 hf
    refine lv_iconst (v := (-1 : Int32)) hx hb d_Ref_begin_25 (by decide +kernel) ?_
    cases hf
    subst hQ
    exact W.iret hx hb hr (fun t ht _ => ⟨⟨_, (), rfl, rfl, by rw [ht]; exact hP, hD⟩, hS.F ht⟩) hS.2.2 d_Ref_begin_26
  · have hf := x_pos c1 hf
    refine lv_aload_n hx hb d_Ref_begin_7 rfl (lv_at hl 0 rfl) ?_
    refine va_get (D := (dC, dI)) (ci := 6) (v := .int D_rules) (C := "SyntaxTreesModel") (T := F_Ref) (N := 28) hx hb hts (fun w h => List.mem_cons_of_mem _ (in_Ref w h)) hown hK.1 hP 0 rfl rfl 4 (by decide +kernel) (hts _ (List.mem_cons_of_mem _ m_511)) (fun _ h9 => h9) rfl d_Ref_begin_8 ?_
    refine lv_sipush (v := (1500 : Int32)) hx hb d_Ref_begin_11 (by decide +kernel) ?_
    refine lv_icmp_eq (tgt := 25) hx hb d_Ref_begin_14 (by decide +kernel) (fun c2 => ?_) (fun c2 => ?_)
    · have hf := x_pos c2 hf
      refine lv_iconst (v := (-1 : Int32)) hx hb d_Ref_begin_25 (by decide +kernel) ?_
      cases hf
      subst hQ
      exact W.iret hx hb hr (fun t ht _ => ⟨⟨_, (), rfl, rfl, by rw [ht]; exact hP, hD⟩, hS.F ht⟩) hS.2.2 d_Ref_begin_26
    · have hf := x_neg c2 hf
      refine lv_aload_n hx hb d_Ref_begin_17 rfl (lv_at hl 0 rfl) ?_
      refine lv_iload_n hx hb d_Ref_begin_18 rfl (lv_at hl 1 rfl) ?_
      obtain ⟨x3, hx3, hf⟩ := x_bd hf
      refine x_rdiV (As := [.int p1]) (rest := []) (wc := [(a_D, .inr (6, [.int D_symbols, .ref a_D_types, .ref a_D_sortOf, .int D_sorts, .int D_rules, .int D_isOpen, .ref a_D_makes, .ref a_D_starts, .ref a_D_told, .int D_all, .ref a_D_row, .int D_length, .ref a_D_many, .ref a_D_ways, .ref a_D_base, .int D_isFound, .int D_foundLimit, .int D_nodes, .ref a_D_ruleOf, .ref a_D_sortAt, .ref a_D_from, .ref a_D_upTo, .ref a_D_firsts, .ref a_D_parts, .ref a_D_variables, .ref a_D_order, .ref a_D_pile, .ref a_D_next])), (a_D_types, .inl (cI, 1000, .inl D_types)), (a_D_sortOf, .inl (cI, 1000, .inl D_sortOf))]) ⟨hx, hb, hml, hown, hts⟩ (c_Ref_canBeSort l dC dI cI cJ cB a_D a_D_types a_D_sortOf a_D_makes a_D_starts a_D_told a_D_row a_D_many a_D_ways a_D_base a_D_ruleOf a_D_sortAt a_D_from a_D_upTo a_D_firsts a_D_parts a_D_variables a_D_order a_D_pile a_D_next D_symbols D_sorts D_rules D_isOpen D_all D_length D_isFound D_foundLimit D_nodes D_types D_sortOf p1 n x3 hx3) (cwV 1 hts (x_gV m_568 m_569 m_27 m_48 m_570) rfl rfl rfl hd_Ref_canBeSort ⟨Nat.le_of_ble_eq_true rfl, Nat.le_of_ble_eq_true rfl⟩) hK hP [0, 1, 2] rfl (ci := 6) (q0 := 0) rfl rfl rfl rfl hl.1 rfl (Nat.le_of_ble_eq_true rfl) d_Ref_begin_19 ⟨Nat.le_of_ble_eq_true rfl, Nat.le_of_ble_eq_true rfl⟩ ?_
      refine lv_if_ne (tgt := 27) hx hb d_Ref_begin_22 (by decide +kernel) (fun c4 => ?_) (fun c4 => ?_)
      · have hf := x_neg c4 hf
        refine lv_aload_n hx hb d_Ref_begin_27 rfl (lv_at hl 0 rfl) ?_
        refine lv_iload_n hx hb d_Ref_begin_28 rfl (lv_at hl 1 rfl) ?_
        obtain ⟨x5, hx5, hf⟩ := x_bd hf
        refine x_wrvV (As := [.int p1]) (rest := []) (wc := [(a_D, .inr (6, [.int D_symbols, .ref a_D_types, .ref a_D_sortOf, .int D_sorts, .int D_rules, .int D_isOpen, .ref a_D_makes, .ref a_D_starts, .ref a_D_told, .int D_all, .ref a_D_row, .int D_length, .ref a_D_many, .ref a_D_ways, .ref a_D_base, .int D_isFound, .int D_foundLimit, .int D_nodes, .ref a_D_ruleOf, .ref a_D_sortAt, .ref a_D_from, .ref a_D_upTo, .ref a_D_firsts, .ref a_D_parts, .ref a_D_variables, .ref a_D_order, .ref a_D_pile, .ref a_D_next])), (a_D_sortOf, .inl (cI, 1000, .inl D_sortOf))]) (wr := [(a_D_types, .inl (cI, 1000, .inl D_types)), (a_D_makes, .inl (cI, 1500, .inl D_makes)), (a_D_starts, .inl (cI, 1501, .inl D_starts))]) (w1 := [(a_D, .inr (6, [.int D_symbols, .ref a_D_types, .ref a_D_sortOf, .int x5.1, .int D_rules, .int D_isOpen, .ref a_D_makes, .ref a_D_starts, .ref a_D_told, .int D_all, .ref a_D_row, .int D_length, .ref a_D_many, .ref a_D_ways, .ref a_D_base, .int D_isFound, .int D_foundLimit, .int D_nodes, .ref a_D_ruleOf, .ref a_D_sortAt, .ref a_D_from, .ref a_D_upTo, .ref a_D_firsts, .ref a_D_parts, .ref a_D_variables, .ref a_D_order, .ref a_D_pile, .ref a_D_next])), (a_D_sortOf, .inl (cI, 1000, .inl x5.2))]) (wf := [(a_D, .inr (6, [.int D_symbols, .ref a_D_types, .ref a_D_sortOf, .int x5.1, .int D_rules, .int D_isOpen, .ref a_D_makes, .ref a_D_starts, .ref a_D_told, .int D_all, .ref a_D_row, .int D_length, .ref a_D_many, .ref a_D_ways, .ref a_D_base, .int D_isFound, .int D_foundLimit, .int D_nodes, .ref a_D_ruleOf, .ref a_D_sortAt, .ref a_D_from, .ref a_D_upTo, .ref a_D_firsts, .ref a_D_parts, .ref a_D_variables, .ref a_D_order, .ref a_D_pile, .ref a_D_next])), (a_D_types, .inl (cI, 1000, .inl D_types)), (a_D_sortOf, .inl (cI, 1000, .inl x5.2)), (a_D_makes, .inl (cI, 1500, .inl D_makes)), (a_D_starts, .inl (cI, 1501, .inl D_starts))]) ⟨hx, hb, hml, hown, hts⟩ (c_Ref_becomesSort l dC dI cI cJ cB a_D a_D_types a_D_sortOf a_D_makes a_D_starts a_D_told a_D_row a_D_many a_D_ways a_D_base a_D_ruleOf a_D_sortAt a_D_from a_D_upTo a_D_firsts a_D_parts a_D_variables a_D_order a_D_pile a_D_next D_symbols D_sorts D_rules D_isOpen D_all D_length D_isFound D_foundLimit D_nodes D_sortOf p1 s.heap.size n x5 hx5) (cwV 1 hts (x_gV m_577 m_578 m_30 m_48 m_579) rfl rfl rfl hd_Ref_becomesSort ⟨Nat.le_of_ble_eq_true rfl, Nat.le_of_ble_eq_true rfl⟩) hK hP hD hS hA [0, 2] [1, 3, 4] [3, 0, 4, 1, 2] rfl rfl rfl (by decide +kernel) (by decide +kernel) (by decide +kernel) (by decide +kernel) (ci := 6) (q0 := 0) rfl rfl rfl rfl hl.1 rfl (Nat.le_of_ble_eq_true rfl) d_Ref_begin_29 ⟨Nat.le_of_ble_eq_true rfl, Nat.le_of_ble_eq_true rfl⟩ (fun H locs hP hD hS => ?_)
        refine lv_aload_n hx hb d_Ref_begin_32 rfl (lv_at hl 0 rfl) ?_
        refine lv_iconst (v := (0 : Int32)) hx hb d_Ref_begin_33 (by decide +kernel) ?_
        refine x_put (D := (dC, dI)) (ci := 6) (v := .int (0 : Int32)) (ty := .boolean) (C := "SyntaxTreesModel") (T := F_Ref) (N := 28) (w1 := [(a_D, .inr (6, [.int D_symbols, .ref a_D_types, .ref a_D_sortOf, .int x5.1, .int D_rules, .int D_isOpen, .ref a_D_makes, .ref a_D_starts, .ref a_D_told, .int D_all, .ref a_D_row, .int D_length, .ref a_D_many, .ref a_D_ways, .ref a_D_base, .int (0 : Int32), .int D_foundLimit, .int D_nodes, .ref a_D_ruleOf, .ref a_D_sortAt, .ref a_D_from, .ref a_D_upTo, .ref a_D_firsts, .ref a_D_parts, .ref a_D_variables, .ref a_D_order, .ref a_D_pile, .ref a_D_next])), (a_D_types, .inl (cI, 1000, .inl D_types)), (a_D_sortOf, .inl (cI, 1000, .inl x5.2)), (a_D_makes, .inl (cI, 1500, .inl D_makes)), (a_D_starts, .inl (cI, 1501, .inl D_starts))]) hx hb hts (fun w h => List.mem_cons_of_mem _ (in_Ref w h)) t_Ref t_Ref_ok n_Ref hown hK.1 hP hD hS 0 rfl rfl 15 (by decide +kernel) (hts _ (List.mem_cons_of_mem _ m_522)) (fun _ h9 => h9) rfl (by decide +kernel) rfl rfl (Nat.le_of_ble_eq_true rfl) d_Ref_begin_34 rfl (fun H locs hP hD hS => ?_)
        refine lv_aload_n hx hb d_Ref_begin_37 rfl (lv_at hl 0 rfl) ?_
        refine va_get (D := (dC, dI)) (ci := 6) (v := .ref a_D_makes) (C := "SyntaxTreesModel") (T := F_Ref) (N := 28) hx hb hts (fun w h => List.mem_cons_of_mem _ (in_Ref w h)) hown hK.1 hP 0 rfl rfl 6 (by decide +kernel) (hts _ (List.mem_cons_of_mem _ m_513)) (fun _ h9 => h9) rfl d_Ref_begin_38 ?_
        refine lv_aload_n hx hb d_Ref_begin_41 rfl (lv_at hl 0 rfl) ?_
        refine va_get (D := (dC, dI)) (ci := 6) (v := .int D_rules) (C := "SyntaxTreesModel") (T := F_Ref) (N := 28) hx hb hts (fun w h => List.mem_cons_of_mem _ (in_Ref w h)) hown hK.1 hP 0 rfl rfl 4 (by decide +kernel) (hts _ (List.mem_cons_of_mem _ m_511)) (fun _ h9 => h9) rfl d_Ref_begin_42 ?_
        refine lv_iload_n hx hb d_Ref_begin_45 rfl (lv_at hl 1 rfl) ?_
        obtain ⟨h6, hf⟩ := x_gd hf
        refine x_iast (w1 := [(a_D, .inr (6, [.int D_symbols, .ref a_D_types, .ref a_D_sortOf, .int x5.1, .int D_rules, .int D_isOpen, .ref a_D_makes, .ref a_D_starts, .ref a_D_told, .int D_all, .ref a_D_row, .int D_length, .ref a_D_many, .ref a_D_ways, .ref a_D_base, .int (0 : Int32), .int D_foundLimit, .int D_nodes, .ref a_D_ruleOf, .ref a_D_sortAt, .ref a_D_from, .ref a_D_upTo, .ref a_D_firsts, .ref a_D_parts, .ref a_D_variables, .ref a_D_order, .ref a_D_pile, .ref a_D_next])), (a_D_types, .inl (cI, 1000, .inl D_types)), (a_D_sortOf, .inl (cI, 1000, .inl x5.2)), (a_D_makes, .inl (cI, 1500, .inl (upd D_makes D_rules.toNatClampNeg p1))), (a_D_starts, .inl (cI, 1501, .inl D_starts))]) hx hb hK.1 hP hD hS 3 0 rfl rfl h6 d_Ref_begin_46 rfl (fun H locs hP hD hS => ?_)
        refine lv_aload_n hx hb d_Ref_begin_47 rfl (lv_at hl 0 rfl) ?_
        refine va_get (D := (dC, dI)) (ci := 6) (v := .ref a_D_starts) (C := "SyntaxTreesModel") (T := F_Ref) (N := 28) hx hb hts (fun w h => List.mem_cons_of_mem _ (in_Ref w h)) hown hK.1 hP 0 rfl rfl 7 (by decide +kernel) (hts _ (List.mem_cons_of_mem _ m_514)) (fun _ h9 => h9) rfl d_Ref_begin_48 ?_
        refine lv_aload_n hx hb d_Ref_begin_51 rfl (lv_at hl 0 rfl) ?_
        refine va_get (D := (dC, dI)) (ci := 6) (v := .int D_rules) (C := "SyntaxTreesModel") (T := F_Ref) (N := 28) hx hb hts (fun w h => List.mem_cons_of_mem _ (in_Ref w h)) hown hK.1 hP 0 rfl rfl 4 (by decide +kernel) (hts _ (List.mem_cons_of_mem _ m_511)) (fun _ h9 => h9) rfl d_Ref_begin_52 ?_
        refine lv_aload_n hx hb d_Ref_begin_55 rfl (lv_at hl 0 rfl) ?_
        refine va_get (D := (dC, dI)) (ci := 6) (v := .int D_all) (C := "SyntaxTreesModel") (T := F_Ref) (N := 28) hx hb hts (fun w h => List.mem_cons_of_mem _ (in_Ref w h)) hown hK.1 hP 0 rfl rfl 9 (by decide +kernel) (hts _ (List.mem_cons_of_mem _ m_516)) (fun _ h9 => h9) rfl d_Ref_begin_56 ?_
        obtain ⟨h7, hf⟩ := x_gd hf
        refine x_iast (w1 := [(a_D, .inr (6, [.int D_symbols, .ref a_D_types, .ref a_D_sortOf, .int x5.1, .int D_rules, .int D_isOpen, .ref a_D_makes, .ref a_D_starts, .ref a_D_told, .int D_all, .ref a_D_row, .int D_length, .ref a_D_many, .ref a_D_ways, .ref a_D_base, .int (0 : Int32), .int D_foundLimit, .int D_nodes, .ref a_D_ruleOf, .ref a_D_sortAt, .ref a_D_from, .ref a_D_upTo, .ref a_D_firsts, .ref a_D_parts, .ref a_D_variables, .ref a_D_order, .ref a_D_pile, .ref a_D_next])), (a_D_types, .inl (cI, 1000, .inl D_types)), (a_D_sortOf, .inl (cI, 1000, .inl x5.2)), (a_D_makes, .inl (cI, 1500, .inl (upd D_makes D_rules.toNatClampNeg p1))), (a_D_starts, .inl (cI, 1501, .inl (upd D_starts D_rules.toNatClampNeg D_all)))]) hx hb hK.1 hP hD hS 4 0 rfl rfl h7 d_Ref_begin_59 rfl (fun H locs hP hD hS => ?_)
        refine lv_aload_n hx hb d_Ref_begin_60 rfl (lv_at hl 0 rfl) ?_
        refine lv_iconst (v := (1 : Int32)) hx hb d_Ref_begin_61 (by decide +kernel) ?_
        refine x_put (D := (dC, dI)) (ci := 6) (v := .int (1 : Int32)) (ty := .boolean) (C := "SyntaxTreesModel") (T := F_Ref) (N := 28) (w1 := [(a_D, .inr (6, [.int D_symbols, .ref a_D_types, .ref a_D_sortOf, .int x5.1, .int D_rules, .int (1 : Int32), .ref a_D_makes, .ref a_D_starts, .ref a_D_told, .int D_all, .ref a_D_row, .int D_length, .ref a_D_many, .ref a_D_ways, .ref a_D_base, .int (0 : Int32), .int D_foundLimit, .int D_nodes, .ref a_D_ruleOf, .ref a_D_sortAt, .ref a_D_from, .ref a_D_upTo, .ref a_D_firsts, .ref a_D_parts, .ref a_D_variables, .ref a_D_order, .ref a_D_pile, .ref a_D_next])), (a_D_types, .inl (cI, 1000, .inl D_types)), (a_D_sortOf, .inl (cI, 1000, .inl x5.2)), (a_D_makes, .inl (cI, 1500, .inl (upd D_makes D_rules.toNatClampNeg p1))), (a_D_starts, .inl (cI, 1501, .inl (upd D_starts D_rules.toNatClampNeg D_all)))]) hx hb hts (fun w h => List.mem_cons_of_mem _ (in_Ref w h)) t_Ref t_Ref_ok n_Ref hown hK.1 hP hD hS 0 rfl rfl 5 (by decide +kernel) (hts _ (List.mem_cons_of_mem _ m_512)) (fun _ h9 => h9) rfl (by decide +kernel) rfl rfl (Nat.le_of_ble_eq_true rfl) d_Ref_begin_62 rfl (fun H locs hP hD hS => ?_)
        refine lv_aload_n hx hb d_Ref_begin_65 rfl (lv_at hl 0 rfl) ?_
        refine va_get (D := (dC, dI)) (ci := 6) (v := .int D_rules) (C := "SyntaxTreesModel") (T := F_Ref) (N := 28) hx hb hts (fun w h => List.mem_cons_of_mem _ (in_Ref w h)) hown hK.1 hP 0 rfl rfl 4 (by decide +kernel) (hts _ (List.mem_cons_of_mem _ m_511)) (fun _ h9 => h9) rfl d_Ref_begin_66 ?_
        cases hf
        subst hQ
        exact W.iret hx hb hr (fun t ht _ => ⟨⟨_, (), rfl, rfl, by rw [ht]; exact hP, hD⟩, hS.F ht⟩) hS.2.2 d_Ref_begin_69
      · have hf := x_pos c4 hf
        refine lv_iconst (v := (-1 : Int32)) hx hb d_Ref_begin_25 (by decide +kernel) ?_
        cases hf
        subst hQ
        exact W.iret hx hb hr (fun t ht _ => ⟨⟨_, (), rfl, rfl, by rw [ht]; exact hP, hD⟩, hS.F ht⟩) hS.2.2 d_Ref_begin_26
set_option maxHeartbeats 4000000 in
set_option maxRecDepth 100000 in
theorem w_Ref_put_L57 {p : Program} {l : Launch} {e : Env} {s : State} {m : MethodId} {args : Array Value} {below : List Frame} {meth : Method} {c : Code} {dC : Nat → ClassId} {dI : Nat → Nat → Nat} {cI cJ cB : ClassId} {a_D a_D_types a_D_sortOf a_D_makes a_D_starts a_D_told a_D_row a_D_many a_D_ways a_D_base a_D_ruleOf a_D_sortAt a_D_from a_D_upTo a_D_firsts a_D_parts a_D_variables a_D_order a_D_pile a_D_next : Nat} {A : Nat → Prop} {Q : State → Prop} (n : Nat) (v1 : Int32) (D_symbols : Int32) (D_sorts : Int32) (D_rules : Int32) (D_isOpen : Int32) (D_all : Int32) (D_length : Int32) (D_isFound : Int32) (D_foundLimit : Int32) (D_nodes : Int32) (D_types : Nat → Int32) (D_starts : Nat → Int32) (D_told : Nat → Int32) (hx : p.tables.exec = Jvm.exec) (hb : c.code = b_Ref_put) (hml : c.maxLocals = 3) (hown : s.vm.findClass "SyntaxTreesModel" = some m.cls) (hts : ∀ w ∈ w_Ref_put, w.before args s = true) (hK : x_K (dC, dI) [(cI, .int), (cJ, .long), (cB, .byte)] s) (hr : meth.sig.returnType = some .int) (hlocks : meth.locks = false) (hA : ∀ q, s.heap.size ≤ q → A q) : ∀ (k : Nat) (v2 : Int32) (o : Int32 × Int32 × (Nat → Int32)) (H : Heap) (locs : List Loc) (ls : Array Slot), Q = MQ below (va_Qi (fun r (_ : Unit) => r = o.1) (fun _ t => va_P (dC, dI) vwCl [(a_D, .inr (6, [.int D_symbols, .ref a_D_types, .ref a_D_sortOf, .int D_sorts, .int D_rules, .int D_isOpen, .ref a_D_makes, .ref a_D_starts, .ref a_D_told, .int o.2.1, .ref a_D_row, .int D_length, .ref a_D_many, .ref a_D_ways, .ref a_D_base, .int D_isFound, .int D_foundLimit, .int D_nodes, .ref a_D_ruleOf, .ref a_D_sortAt, .ref a_D_from, .ref a_D_upTo, .ref a_D_firsts, .ref a_D_parts, .ref a_D_variables, .ref a_D_order, .ref a_D_pile, .ref a_D_next])), (a_D_types, .inl (cI, 1000, .inl D_types)), (a_D_starts, .inl (cI, 1501, .inl D_starts)), (a_D_told, .inl (cI, 30000, .inl o.2.2))] t.heap ∧ va_D A [(a_D, .inr (6, [.int D_symbols, .ref a_D_types, .ref a_D_sortOf, .int D_sorts, .int D_rules, .int D_isOpen, .ref a_D_makes, .ref a_D_starts, .ref a_D_told, .int o.2.1, .ref a_D_row, .int D_length, .ref a_D_many, .ref a_D_ways, .ref a_D_base, .int D_isFound, .int D_foundLimit, .int D_nodes, .ref a_D_ruleOf, .ref a_D_sortAt, .ref a_D_from, .ref a_D_upTo, .ref a_D_firsts, .ref a_D_parts, .ref a_D_variables, .ref a_D_order, .ref a_D_pile, .ref a_D_next])), (a_D_types, .inl (cI, 1000, .inl D_types)), (a_D_starts, .inl (cI, 1501, .inl D_starts)), (a_D_told, .inl (cI, 30000, .inl o.2.2))]) A) args s 0 0 A → f_Ref_put_L57 n v1 D_rules D_all D_types D_starts D_told k v2 = some o → va_P (dC, dI) vwCl [(a_D, .inr (6, [.int D_symbols, .ref a_D_types, .ref a_D_sortOf, .int D_sorts, .int D_rules, .int D_isOpen, .ref a_D_makes, .ref a_D_starts, .ref a_D_told, .int D_all, .ref a_D_row, .int D_length, .ref a_D_many, .ref a_D_ways, .ref a_D_base, .int D_isFound, .int D_foundLimit, .int D_nodes, .ref a_D_ruleOf, .ref a_D_sortAt, .ref a_D_from, .ref a_D_upTo, .ref a_D_firsts, .ref a_D_parts, .ref a_D_variables, .ref a_D_order, .ref a_D_pile, .ref a_D_next])), (a_D_types, .inl (cI, 1000, .inl D_types)), (a_D_starts, .inl (cI, 1501, .inl D_starts)), (a_D_told, .inl (cI, 30000, .inl D_told))] H → va_D A [(a_D, .inr (6, [.int D_symbols, .ref a_D_types, .ref a_D_sortOf, .int D_sorts, .int D_rules, .int D_isOpen, .ref a_D_makes, .ref a_D_starts, .ref a_D_told, .int D_all, .ref a_D_row, .int D_length, .ref a_D_many, .ref a_D_ways, .ref a_D_base, .int D_isFound, .int D_foundLimit, .int D_nodes, .ref a_D_ruleOf, .ref a_D_sortAt, .ref a_D_from, .ref a_D_upTo, .ref a_D_firsts, .ref a_D_parts, .ref a_D_variables, .ref a_D_order, .ref a_D_pile, .ref a_D_next])), (a_D_types, .inl (cI, 1000, .inl D_types)), (a_D_starts, .inl (cI, 1501, .inl D_starts)), (a_D_told, .inl (cI, 30000, .inl D_told))] → va_S A s.heap H locs → lv_has ls 3 [(2, .int v2), (0, .ref a_D), (1, .int v1)] → W p l e ({ frames := 1, cells := 0, slots := 0, locals := 21 }) s m args below meth c H locs 0 0 Q (F0 m 57 ls []) := by
  intro k
  induction k with
  | zero =>
    intro v2 o H locs ls hQ hf
    exact absurd hf (by simp [f_Ref_put_L57])
  | succ k ih =>
    intro v2 o H locs ls hQ hf hP hD hS hl
    rw [f_Ref_put_L57] at hf
    refine lv_iload_n hx hb d_Ref_put_57 rfl (lv_at hl 0 rfl) ?_
    refine lv_aload_n hx hb d_Ref_put_58 rfl (lv_at hl 1 rfl) ?_
    refine va_get (D := (dC, dI)) (ci := 6) (v := .int D_all) (C := "SyntaxTreesModel") (T := F_Ref) (N := 28) hx hb hts (fun w h => List.mem_cons_of_mem _ (in_Ref w h)) hown hK.1 hP 0 rfl rfl 9 (by decide +kernel) (hts _ (List.mem_cons_of_mem _ m_516)) (fun _ h9 => h9) rfl d_Ref_put_59 ?_
    refine lv_icmp_ge (tgt := 93) hx hb d_Ref_put_62 (by decide +kernel) (fun c1 => ?_) (fun c1 => ?_)
    · have hf := x_pos c1 hf
      refine lv_aload_n hx hb d_Ref_put_93 rfl (lv_at hl 1 rfl) ?_
      refine va_get (D := (dC, dI)) (ci := 6) (v := .ref a_D_told) (C := "SyntaxTreesModel") (T := F_Ref) (N := 28) hx hb hts (fun w h => List.mem_cons_of_mem _ (in_Ref w h)) hown hK.1 hP 0 rfl rfl 8 (by decide +kernel) (hts _ (List.mem_cons_of_mem _ m_515)) (fun _ h9 => h9) rfl d_Ref_put_94 ?_
      refine lv_aload_n hx hb d_Ref_put_97 rfl (lv_at hl 1 rfl) ?_
      refine va_get (D := (dC, dI)) (ci := 6) (v := .int D_all) (C := "SyntaxTreesModel") (T := F_Ref) (N := 28) hx hb hts (fun w h => List.mem_cons_of_mem _ (in_Ref w h)) hown hK.1 hP 0 rfl rfl 9 (by decide +kernel) (hts _ (List.mem_cons_of_mem _ m_516)) (fun _ h9 => h9) rfl d_Ref_put_98 ?_
      refine lv_iload_n hx hb d_Ref_put_101 rfl (lv_at hl 2 rfl) ?_
      obtain ⟨h2, hf⟩ := x_gd hf
      refine x_iast (w1 := [(a_D, .inr (6, [.int D_symbols, .ref a_D_types, .ref a_D_sortOf, .int D_sorts, .int D_rules, .int D_isOpen, .ref a_D_makes, .ref a_D_starts, .ref a_D_told, .int D_all, .ref a_D_row, .int D_length, .ref a_D_many, .ref a_D_ways, .ref a_D_base, .int D_isFound, .int D_foundLimit, .int D_nodes, .ref a_D_ruleOf, .ref a_D_sortAt, .ref a_D_from, .ref a_D_upTo, .ref a_D_firsts, .ref a_D_parts, .ref a_D_variables, .ref a_D_order, .ref a_D_pile, .ref a_D_next])), (a_D_types, .inl (cI, 1000, .inl D_types)), (a_D_starts, .inl (cI, 1501, .inl D_starts)), (a_D_told, .inl (cI, 30000, .inl (upd D_told D_all.toNatClampNeg v1)))]) hx hb hK.1 hP hD hS 3 0 rfl rfl h2 d_Ref_put_102 rfl (fun H locs hP hD hS => ?_)
      refine lv_aload_n hx hb d_Ref_put_103 rfl (lv_at hl 1 rfl) ?_
      refine lv_dup hx hb d_Ref_put_104 rfl ?_
      refine va_get (D := (dC, dI)) (ci := 6) (v := .int D_all) (C := "SyntaxTreesModel") (T := F_Ref) (N := 28) hx hb hts (fun w h => List.mem_cons_of_mem _ (in_Ref w h)) hown hK.1 hP 0 rfl rfl 9 (by decide +kernel) (hts _ (List.mem_cons_of_mem _ m_516)) (fun _ h9 => h9) rfl d_Ref_put_105 ?_
      refine lv_iconst (v := (1 : Int32)) hx hb d_Ref_put_108 (by decide +kernel) ?_
      refine lv_iadd hx hb d_Ref_put_109 ?_
      refine x_put (D := (dC, dI)) (ci := 6) (v := .int (D_all + (1 : Int32))) (ty := .int) (C := "SyntaxTreesModel") (T := F_Ref) (N := 28) (w1 := [(a_D, .inr (6, [.int D_symbols, .ref a_D_types, .ref a_D_sortOf, .int D_sorts, .int D_rules, .int D_isOpen, .ref a_D_makes, .ref a_D_starts, .ref a_D_told, .int (D_all + (1 : Int32)), .ref a_D_row, .int D_length, .ref a_D_many, .ref a_D_ways, .ref a_D_base, .int D_isFound, .int D_foundLimit, .int D_nodes, .ref a_D_ruleOf, .ref a_D_sortAt, .ref a_D_from, .ref a_D_upTo, .ref a_D_firsts, .ref a_D_parts, .ref a_D_variables, .ref a_D_order, .ref a_D_pile, .ref a_D_next])), (a_D_types, .inl (cI, 1000, .inl D_types)), (a_D_starts, .inl (cI, 1501, .inl D_starts)), (a_D_told, .inl (cI, 30000, .inl (upd D_told D_all.toNatClampNeg v1)))]) hx hb hts (fun w h => List.mem_cons_of_mem _ (in_Ref w h)) t_Ref t_Ref_ok n_Ref hown hK.1 hP hD hS 0 rfl rfl 9 (by decide +kernel) (hts _ (List.mem_cons_of_mem _ m_516)) (fun _ h9 => h9) rfl (by decide +kernel) rfl rfl (Nat.le_of_ble_eq_true rfl) d_Ref_put_110 rfl (fun H locs hP hD hS => ?_)
      refine lv_aload_n hx hb d_Ref_put_113 rfl (lv_at hl 1 rfl) ?_
      refine va_get (D := (dC, dI)) (ci := 6) (v := .int (D_all + (1 : Int32))) (C := "SyntaxTreesModel") (T := F_Ref) (N := 28) hx hb hts (fun w h => List.mem_cons_of_mem _ (in_Ref w h)) hown hK.1 hP 0 rfl rfl 9 (by decide +kernel) (hts _ (List.mem_cons_of_mem _ m_516)) (fun _ h9 => h9) rfl d_Ref_put_114 ?_
      refine lv_aload_n hx hb d_Ref_put_117 rfl (lv_at hl 1 rfl) ?_
      refine va_get (D := (dC, dI)) (ci := 6) (v := .ref a_D_starts) (C := "SyntaxTreesModel") (T := F_Ref) (N := 28) hx hb hts (fun w h => List.mem_cons_of_mem _ (in_Ref w h)) hown hK.1 hP 0 rfl rfl 7 (by decide +kernel) (hts _ (List.mem_cons_of_mem _ m_514)) (fun _ h9 => h9) rfl d_Ref_put_118 ?_
      refine lv_aload_n hx hb d_Ref_put_121 rfl (lv_at hl 1 rfl) ?_
      refine va_get (D := (dC, dI)) (ci := 6) (v := .int D_rules) (C := "SyntaxTreesModel") (T := F_Ref) (N := 28) hx hb hts (fun w h => List.mem_cons_of_mem _ (in_Ref w h)) hown hK.1 hP 0 rfl rfl 4 (by decide +kernel) (hts _ (List.mem_cons_of_mem _ m_511)) (fun _ h9 => h9) rfl d_Ref_put_122 ?_
      obtain ⟨h3, hf⟩ := x_gd hf
      refine va_iald hx hb hK.1 hP 2 0 rfl rfl h3 d_Ref_put_125 ?_
      refine lv_isub hx hb d_Ref_put_126 ?_
      cases hf
      subst hQ
      exact W.iret hx hb hr (fun t ht _ => ⟨⟨_, (), rfl, rfl, by rw [ht]; exact hP, hD⟩, hS.F ht⟩) hS.2.2 d_Ref_put_127
    · have hf := x_neg c1 hf
      refine lv_aload_n hx hb d_Ref_put_65 rfl (lv_at hl 1 rfl) ?_
      refine va_get (D := (dC, dI)) (ci := 6) (v := .ref a_D_told) (C := "SyntaxTreesModel") (T := F_Ref) (N := 28) hx hb hts (fun w h => List.mem_cons_of_mem _ (in_Ref w h)) hown hK.1 hP 0 rfl rfl 8 (by decide +kernel) (hts _ (List.mem_cons_of_mem _ m_515)) (fun _ h9 => h9) rfl d_Ref_put_66 ?_
      refine lv_iload_n hx hb d_Ref_put_69 rfl (lv_at hl 0 rfl) ?_
      obtain ⟨h4, hf⟩ := x_gd hf
      refine va_iald hx hb hK.1 hP 3 0 rfl rfl h4 d_Ref_put_70 ?_
      refine lv_iload_n hx hb d_Ref_put_71 rfl (lv_at hl 2 rfl) ?_
      refine lv_icmp_ne (tgt := 87) hx hb d_Ref_put_72 (by decide +kernel) (fun c5 => ?_) (fun c5 => ?_)
      · have hf := x_neg c5 hf
        refine lv_iinc (v := (v2 + (1 : Int32))) (lv' := [(2, .int (v2 + (1 : Int32))), (0, .ref a_D), (1, .int v1)]) hx hb d_Ref_put_87 hl (k := 0) rfl rfl (by decide +kernel) rfl (fun ls hl => ?_)
        refine lv_goto (tgt := 57) hx hb d_Ref_put_90 (by decide +kernel) ?_
        exact ih (v2 + (1 : Int32)) o _ _ ls hQ hf hP hD hS (lv_sub hl [0, 1, 2] rfl)
      · have hf := x_pos c5 hf
        refine lv_aload_n hx hb d_Ref_put_75 rfl (lv_at hl 1 rfl) ?_
        refine va_get (D := (dC, dI)) (ci := 6) (v := .ref a_D_types) (C := "SyntaxTreesModel") (T := F_Ref) (N := 28) hx hb hts (fun w h => List.mem_cons_of_mem _ (in_Ref w h)) hown hK.1 hP 0 rfl rfl 1 (by decide +kernel) (hts _ (List.mem_cons_of_mem _ m_508)) (fun _ h9 => h9) rfl d_Ref_put_76 ?_
        refine lv_iload_n hx hb d_Ref_put_79 rfl (lv_at hl 2 rfl) ?_
        obtain ⟨h6, hf⟩ := x_gd hf
        refine va_iald hx hb hK.1 hP 1 0 rfl rfl h6 d_Ref_put_80 ?_
        refine lv_iconst (v := (-1 : Int32)) hx hb d_Ref_put_81 (by decide +kernel) ?_
        refine lv_icmp_eq (tgt := 87) hx hb d_Ref_put_82 (by decide +kernel) (fun c7 => ?_) (fun c7 => ?_)
        · have hf := x_pos c7 hf
          refine lv_iinc (v := (v2 + (1 : Int32))) (lv' := [(2, .int (v2 + (1 : Int32))), (0, .ref a_D), (1, .int v1)]) hx hb d_Ref_put_87 hl (k := 0) rfl rfl (by decide +kernel) rfl (fun ls hl => ?_)
          refine lv_goto (tgt := 57) hx hb d_Ref_put_90 (by decide +kernel) ?_
          exact ih (v2 + (1 : Int32)) o _ _ ls hQ hf hP hD hS (lv_sub hl [0, 1, 2] rfl)
        · have hf := x_neg c7 hf
          refine lv_iconst (v := (-1 : Int32)) hx hb d_Ref_put_85 (by decide +kernel) ?_
          cases hf
          subst hQ
          exact W.iret hx hb hr (fun t ht _ => ⟨⟨_, (), rfl, rfl, by rw [ht]; exact hP, hD⟩, hS.F ht⟩) hS.2.2 d_Ref_put_86
set_option maxHeartbeats 4000000 in
set_option maxRecDepth 100000 in
theorem c_Ref_put (l : Launch) (dC : Nat → ClassId) (dI : Nat → Nat → Nat) (cI cJ cB : ClassId) (a_D a_D_types a_D_sortOf a_D_makes a_D_starts a_D_told a_D_row a_D_many a_D_ways a_D_base a_D_ruleOf a_D_sortAt a_D_from a_D_upTo a_D_firsts a_D_parts a_D_variables a_D_order a_D_pile a_D_next : Nat)  (D_symbols : Int32) (D_sorts : Int32) (D_rules : Int32) (D_isOpen : Int32) (D_all : Int32) (D_length : Int32) (D_isFound : Int32) (D_foundLimit : Int32) (D_nodes : Int32) (D_types : Nat → Int32) (D_starts : Nat → Int32) (D_told : Nat → Int32) (p1 : Int32) (sz : Nat) (n : Nat) (o : Int32 × Int32 × (Nat → Int32)) (hf : f_Ref_put n D_symbols D_rules D_isOpen D_all D_types D_starts D_told p1 = some o) : Met l y_Ref_put w_Ref_put ({ frames := 1, cells := 0, slots := 0, locals := 21 }) (va_Pc [.ref a_D, .int p1] (fun U => U.heap.size = sz ∧ va_P (dC, dI) vwCl [(a_D, .inr (6, [.int D_symbols, .ref a_D_types, .ref a_D_sortOf, .int D_sorts, .int D_rules, .int D_isOpen, .ref a_D_makes, .ref a_D_starts, .ref a_D_told, .int D_all, .ref a_D_row, .int D_length, .ref a_D_many, .ref a_D_ways, .ref a_D_base, .int D_isFound, .int D_foundLimit, .int D_nodes, .ref a_D_ruleOf, .ref a_D_sortAt, .ref a_D_from, .ref a_D_upTo, .ref a_D_firsts, .ref a_D_parts, .ref a_D_variables, .ref a_D_order, .ref a_D_pile, .ref a_D_next])), (a_D_types, .inl (cI, 1000, .inl D_types)), (a_D_starts, .inl (cI, 1501, .inl D_starts)), (a_D_told, .inl (cI, 30000, .inl D_told))] U.heap ∧ x_K (dC, dI) [(cI, .int), (cJ, .long), (cB, .byte)] U ∧ va_D (fun _ => True) [(a_D, .inr (6, [.int D_symbols, .ref a_D_types, .ref a_D_sortOf, .int D_sorts, .int D_rules, .int D_isOpen, .ref a_D_makes, .ref a_D_starts, .ref a_D_told, .int D_all, .ref a_D_row, .int D_length, .ref a_D_many, .ref a_D_ways, .ref a_D_base, .int D_isFound, .int D_foundLimit, .int D_nodes, .ref a_D_ruleOf, .ref a_D_sortAt, .ref a_D_from, .ref a_D_upTo, .ref a_D_firsts, .ref a_D_parts, .ref a_D_variables, .ref a_D_order, .ref a_D_pile, .ref a_D_next])), (a_D_types, .inl (cI, 1000, .inl D_types)), (a_D_starts, .inl (cI, 1501, .inl D_starts)), (a_D_told, .inl (cI, 30000, .inl D_told))])) (va_Qi (fun r (_ : Unit) => r = o.1) (fun _ t => va_P (dC, dI) vwCl [(a_D, .inr (6, [.int D_symbols, .ref a_D_types, .ref a_D_sortOf, .int D_sorts, .int D_rules, .int D_isOpen, .ref a_D_makes, .ref a_D_starts, .ref a_D_told, .int o.2.1, .ref a_D_row, .int D_length, .ref a_D_many, .ref a_D_ways, .ref a_D_base, .int D_isFound, .int D_foundLimit, .int D_nodes, .ref a_D_ruleOf, .ref a_D_sortAt, .ref a_D_from, .ref a_D_upTo, .ref a_D_firsts, .ref a_D_parts, .ref a_D_variables, .ref a_D_order, .ref a_D_pile, .ref a_D_next])), (a_D_types, .inl (cI, 1000, .inl D_types)), (a_D_starts, .inl (cI, 1501, .inl D_starts)), (a_D_told, .inl (cI, 30000, .inl o.2.2))] t.heap ∧ va_D (va_A [(a_D, .inr (6, [.int D_symbols, .ref a_D_types, .ref a_D_sortOf, .int D_sorts, .int D_rules, .int D_isOpen, .ref a_D_makes, .ref a_D_starts, .ref a_D_told, .int D_all, .ref a_D_row, .int D_length, .ref a_D_many, .ref a_D_ways, .ref a_D_base, .int D_isFound, .int D_foundLimit, .int D_nodes, .ref a_D_ruleOf, .ref a_D_sortAt, .ref a_D_from, .ref a_D_upTo, .ref a_D_firsts, .ref a_D_parts, .ref a_D_variables, .ref a_D_order, .ref a_D_pile, .ref a_D_next])), (a_D_types, .inl (cI, 1000, .inl D_types)), (a_D_starts, .inl (cI, 1501, .inl D_starts)), (a_D_told, .inl (cI, 30000, .inl D_told))] sz) [(a_D, .inr (6, [.int D_symbols, .ref a_D_types, .ref a_D_sortOf, .int D_sorts, .int D_rules, .int D_isOpen, .ref a_D_makes, .ref a_D_starts, .ref a_D_told, .int o.2.1, .ref a_D_row, .int D_length, .ref a_D_many, .ref a_D_ways, .ref a_D_base, .int D_isFound, .int D_foundLimit, .int D_nodes, .ref a_D_ruleOf, .ref a_D_sortAt, .ref a_D_from, .ref a_D_upTo, .ref a_D_firsts, .ref a_D_parts, .ref a_D_variables, .ref a_D_order, .ref a_D_pile, .ref a_D_next])), (a_D_types, .inl (cI, 1000, .inl D_types)), (a_D_starts, .inl (cI, 1501, .inl D_starts)), (a_D_told, .inl (cI, 30000, .inl o.2.2))]) (va_A [(a_D, .inr (6, [.int D_symbols, .ref a_D_types, .ref a_D_sortOf, .int D_sorts, .int D_rules, .int D_isOpen, .ref a_D_makes, .ref a_D_starts, .ref a_D_told, .int D_all, .ref a_D_row, .int D_length, .ref a_D_many, .ref a_D_ways, .ref a_D_base, .int D_isFound, .int D_foundLimit, .int D_nodes, .ref a_D_ruleOf, .ref a_D_sortAt, .ref a_D_from, .ref a_D_upTo, .ref a_D_firsts, .ref a_D_parts, .ref a_D_variables, .ref a_D_order, .ref a_D_pile, .ref a_D_next])), (a_D_types, .inl (cI, 1000, .inl D_types)), (a_D_starts, .inl (cI, 1501, .inl D_starts)), (a_D_told, .inl (cI, 30000, .inl D_told))] sz)) 0 0 (va_A [(a_D, .inr (6, [.int D_symbols, .ref a_D_types, .ref a_D_sortOf, .int D_sorts, .int D_rules, .int D_isOpen, .ref a_D_makes, .ref a_D_starts, .ref a_D_told, .int D_all, .ref a_D_row, .int D_length, .ref a_D_many, .ref a_D_ways, .ref a_D_base, .int D_isFound, .int D_foundLimit, .int D_nodes, .ref a_D_ruleOf, .ref a_D_sortAt, .ref a_D_from, .ref a_D_upTo, .ref a_D_firsts, .ref a_D_parts, .ref a_D_variables, .ref a_D_order, .ref a_D_pile, .ref a_D_next])), (a_D_types, .inl (cI, 1000, .inl D_types)), (a_D_starts, .inl (cI, 1501, .inl D_starts)), (a_D_told, .inl (cI, 30000, .inl D_told))] sz) := by
  refine Met.ofW (cc := b_Ref_put) (maxL := 3) (ret := (some .int)) (by decide +kernel) rfl ?_
  intro p e s m args below meth c s₁ B hml hv
  obtain ⟨rfl, hsz, hP, hK, hD0⟩ := hv
  have hx := B.exec
  have hb := B.bytes
  have hr := B.returns
  have hts := atoms_spec (ws := w_Ref_put) B.pre
  have hown : s.vm.findClass "SyntaxTreesModel" = some m.cls := findClass_of_methodNamed B.named
  have hlocks := B.notSynchronized
  subst hsz
  have hD := hD0.self (sz := s.heap.size)
  generalize hAe : va_A [(a_D, .inr (6, [.int D_symbols, .ref a_D_types, .ref a_D_sortOf, .int D_sorts, .int D_rules, .int D_isOpen, .ref a_D_makes, .ref a_D_starts, .ref a_D_told, .int D_all, .ref a_D_row, .int D_length, .ref a_D_many, .ref a_D_ways, .ref a_D_base, .int D_isFound, .int D_foundLimit, .int D_nodes, .ref a_D_ruleOf, .ref a_D_sortAt, .ref a_D_from, .ref a_D_upTo, .ref a_D_firsts, .ref a_D_parts, .ref a_D_variables, .ref a_D_order, .ref a_D_pile, .ref a_D_next])), (a_D_types, .inl (cI, 1000, .inl D_types)), (a_D_starts, .inl (cI, 1501, .inl D_starts)), (a_D_told, .inl (cI, 30000, .inl D_told))] s.heap.size = A at hD ⊢
  have hA : ∀ q : Nat, s.heap.size ≤ q → A q := fun q h => by rw [← hAe]; exact Or.inr h
  have hS : va_S A s.heap s.heap [] := va_S.rf
  have hP : va_P (dC, dI) vwCl [(a_D, .inr (6, [.int D_symbols, .ref a_D_types, .ref a_D_sortOf, .int D_sorts, .int D_rules, .int D_isOpen, .ref a_D_makes, .ref a_D_starts, .ref a_D_told, .int D_all, .ref a_D_row, .int D_length, .ref a_D_many, .ref a_D_ways, .ref a_D_base, .int D_isFound, .int D_foundLimit, .int D_nodes, .ref a_D_ruleOf, .ref a_D_sortAt, .ref a_D_from, .ref a_D_upTo, .ref a_D_firsts, .ref a_D_parts, .ref a_D_variables, .ref a_D_order, .ref a_D_pile, .ref a_D_next])), (a_D_types, .inl (cI, 1000, .inl D_types)), (a_D_starts, .inl (cI, 1501, .inl D_starts)), (a_D_told, .inl (cI, 30000, .inl D_told))] s.heap := hP
  have hl := lv_entry ([.ref a_D, .int p1]) (n := 3) (Nat.le_of_ble_eq_true rfl)
  rw [lg_entry_eq]
  generalize (lg_sl ([.ref a_D, .int p1]) ++ List.replicate (3 - (lg_sl ([.ref a_D, .int p1])).length) Slot.unset).toArray = ls at hl ⊢
  have hl : lv_has ls 3 [(0, .ref a_D), (1, .int p1)] := hl
  refine x_Q (fun Q hQ => ?_)
  unfold f_Ref_put at hf
  refine lv_aload_n hx hb d_Ref_put_0 rfl (lv_at hl 0 rfl) ?_
  refine va_get (D := (dC, dI)) (ci := 6) (v := .int D_isOpen) (C := "SyntaxTreesModel") (T := F_Ref) (N := 28) hx hb hts (fun w h => List.mem_cons_of_mem _ (in_Ref w h)) hown hK.1 hP 0 rfl rfl 5 (by decide +kernel) (hts _ (List.mem_cons_of_mem _ m_512)) (fun _ h9 => h9) rfl d_Ref_put_1 ?_
  refine lv_if_eq (tgt := 45) hx hb d_Ref_put_4 (by decide +kernel) (fun c1 => ?_) (fun c1 => ?_)
  · have hf := x_pos c1 hf
    refine lv_iconst (v := (-1 : Int32)) hx hb d_Ref_put_45 (by decide +kernel) ?_
    cases hf
    subst hQ
    exact W.iret hx hb hr (fun t ht _ => ⟨⟨_, (), rfl, rfl, by rw [ht]; exact hP, hD⟩, hS.F ht⟩) hS.2.2 d_Ref_put_46
  · have hf := x_neg c1 hf
    refine lv_aload_n hx hb d_Ref_put_7 rfl (lv_at hl 0 rfl) ?_
    refine lv_iload_n hx hb d_Ref_put_8 rfl (lv_at hl 1 rfl) ?_
    obtain ⟨x2, hx2, hf⟩ := x_bd hf
    refine x_rdiV (As := [.int p1]) (rest := []) (wc := [(a_D, .inr (6, [.int D_symbols, .ref a_D_types, .ref a_D_sortOf, .int D_sorts, .int D_rules, .int D_isOpen, .ref a_D_makes, .ref a_D_starts, .ref a_D_told, .int D_all, .ref a_D_row, .int D_length, .ref a_D_many, .ref a_D_ways, .ref a_D_base, .int D_isFound, .int D_foundLimit, .int D_nodes, .ref a_D_ruleOf, .ref a_D_sortAt, .ref a_D_from, .ref a_D_upTo, .ref a_D_firsts, .ref a_D_parts, .ref a_D_variables, .ref a_D_order, .ref a_D_pile, .ref a_D_next]))]) ⟨hx, hb, hml, hown, hts⟩ (c_Ref_isSymbol l dC dI cI cJ cB a_D a_D_types a_D_sortOf a_D_makes a_D_starts a_D_told a_D_row a_D_many a_D_ways a_D_base a_D_ruleOf a_D_sortAt a_D_from a_D_upTo a_D_firsts a_D_parts a_D_variables a_D_order a_D_pile a_D_next D_symbols D_sorts D_rules D_isOpen D_all D_length D_isFound D_foundLimit D_nodes p1 n x2 hx2) (cwV 1 hts (x_gV m_574 m_575 m_29 m_48 m_576) rfl rfl rfl hd_Ref_isSymbol ⟨Nat.le_of_ble_eq_true rfl, Nat.le_of_ble_eq_true rfl⟩) hK hP [0] rfl (ci := 6) (q0 := 0) rfl rfl rfl rfl hl.1 rfl (Nat.le_of_ble_eq_true rfl) d_Ref_put_9 ⟨Nat.le_of_ble_eq_true rfl, Nat.le_of_ble_eq_true rfl⟩ ?_
    refine lv_if_eq (tgt := 45) hx hb d_Ref_put_12 (by decide +kernel) (fun c3 => ?_) (fun c3 => ?_)
    · have hf := x_pos c3 hf
      refine lv_iconst (v := (-1 : Int32)) hx hb d_Ref_put_45 (by decide +kernel) ?_
      cases hf
      subst hQ
      exact W.iret hx hb hr (fun t ht _ => ⟨⟨_, (), rfl, rfl, by rw [ht]; exact hP, hD⟩, hS.F ht⟩) hS.2.2 d_Ref_put_46
    · have hf := x_neg c3 hf
      refine lv_aload_n hx hb d_Ref_put_15 rfl (lv_at hl 0 rfl) ?_
      refine va_get (D := (dC, dI)) (ci := 6) (v := .int D_all) (C := "SyntaxTreesModel") (T := F_Ref) (N := 28) hx hb hts (fun w h => List.mem_cons_of_mem _ (in_Ref w h)) hown hK.1 hP 0 rfl rfl 9 (by decide +kernel) (hts _ (List.mem_cons_of_mem _ m_516)) (fun _ h9 => h9) rfl d_Ref_put_16 ?_
      refine lv_sipush (v := (30000 : Int32)) hx hb d_Ref_put_19 (by decide +kernel) ?_
      refine lv_icmp_eq (tgt := 45) hx hb d_Ref_put_22 (by decide +kernel) (fun c4 => ?_) (fun c4 => ?_)
      · have hf := x_pos c4 hf
        refine lv_iconst (v := (-1 : Int32)) hx hb d_Ref_put_45 (by decide +kernel) ?_
        cases hf
        subst hQ
        exact W.iret hx hb hr (fun t ht _ => ⟨⟨_, (), rfl, rfl, by rw [ht]; exact hP, hD⟩, hS.F ht⟩) hS.2.2 d_Ref_put_46
      · have hf := x_neg c4 hf
        refine lv_aload_n hx hb d_Ref_put_25 rfl (lv_at hl 0 rfl) ?_
        refine va_get (D := (dC, dI)) (ci := 6) (v := .int D_all) (C := "SyntaxTreesModel") (T := F_Ref) (N := 28) hx hb hts (fun w h => List.mem_cons_of_mem _ (in_Ref w h)) hown hK.1 hP 0 rfl rfl 9 (by decide +kernel) (hts _ (List.mem_cons_of_mem _ m_516)) (fun _ h9 => h9) rfl d_Ref_put_26 ?_
        refine lv_aload_n hx hb d_Ref_put_29 rfl (lv_at hl 0 rfl) ?_
        refine va_get (D := (dC, dI)) (ci := 6) (v := .ref a_D_starts) (C := "SyntaxTreesModel") (T := F_Ref) (N := 28) hx hb hts (fun w h => List.mem_cons_of_mem _ (in_Ref w h)) hown hK.1 hP 0 rfl rfl 7 (by decide +kernel) (hts _ (List.mem_cons_of_mem _ m_514)) (fun _ h9 => h9) rfl d_Ref_put_30 ?_
        refine lv_aload_n hx hb d_Ref_put_33 rfl (lv_at hl 0 rfl) ?_
        refine va_get (D := (dC, dI)) (ci := 6) (v := .int D_rules) (C := "SyntaxTreesModel") (T := F_Ref) (N := 28) hx hb hts (fun w h => List.mem_cons_of_mem _ (in_Ref w h)) hown hK.1 hP 0 rfl rfl 4 (by decide +kernel) (hts _ (List.mem_cons_of_mem _ m_511)) (fun _ h9 => h9) rfl d_Ref_put_34 ?_
        obtain ⟨h5, hf⟩ := x_gd hf
        refine va_iald hx hb hK.1 hP 2 0 rfl rfl h5 d_Ref_put_37 ?_
        refine lv_isub hx hb d_Ref_put_38 ?_
        refine lv_sipush (v := (299 : Int32)) hx hb d_Ref_put_39 (by decide +kernel) ?_
        refine lv_icmp_ne (tgt := 47) hx hb d_Ref_put_42 (by decide +kernel) (fun c6 => ?_) (fun c6 => ?_)
        · have hf := x_neg c6 hf
          refine lv_aload_n hx hb d_Ref_put_47 rfl (lv_at hl 0 rfl) ?_
          refine va_get (D := (dC, dI)) (ci := 6) (v := .ref a_D_starts) (C := "SyntaxTreesModel") (T := F_Ref) (N := 28) hx hb hts (fun w h => List.mem_cons_of_mem _ (in_Ref w h)) hown hK.1 hP 0 rfl rfl 7 (by decide +kernel) (hts _ (List.mem_cons_of_mem _ m_514)) (fun _ h9 => h9) rfl d_Ref_put_48 ?_
          refine lv_aload_n hx hb d_Ref_put_51 rfl (lv_at hl 0 rfl) ?_
          refine va_get (D := (dC, dI)) (ci := 6) (v := .int D_rules) (C := "SyntaxTreesModel") (T := F_Ref) (N := 28) hx hb hts (fun w h => List.mem_cons_of_mem _ (in_Ref w h)) hown hK.1 hP 0 rfl rfl 4 (by decide +kernel) (hts _ (List.mem_cons_of_mem _ m_511)) (fun _ h9 => h9) rfl d_Ref_put_52 ?_
          obtain ⟨h7, hf⟩ := x_gd hf
          refine va_iald hx hb hK.1 hP 2 0 rfl rfl h7 d_Ref_put_55 ?_
          refine lv_istore_n (lv' := [(2, .int (D_starts D_rules.toNatClampNeg)), (0, .ref a_D), (1, .int p1)]) hx hb d_Ref_put_56 rfl hl (by decide +kernel) rfl (fun ls hl => ?_)
          exact w_Ref_put_L57 n p1 D_symbols D_sorts D_rules D_isOpen D_all D_length D_isFound D_foundLimit D_nodes D_types D_starts D_told hx hb hml hown hts hK hr hlocks hA n (D_starts D_rules.toNatClampNeg) o _ _ ls hQ hf hP hD hS (lv_sub hl [0, 1, 2] rfl)
        · have hf := x_pos c6 hf
          refine lv_iconst (v := (-1 : Int32)) hx hb d_Ref_put_45 (by decide +kernel) ?_
          cases hf
          subst hQ
          exact W.iret hx hb hr (fun t ht _ => ⟨⟨_, (), rfl, rfl, by rw [ht]; exact hP, hD⟩, hS.F ht⟩) hS.2.2 d_Ref_put_46
set_option maxHeartbeats 4000000 in
set_option maxRecDepth 100000 in
theorem c_Ref_close (l : Launch) (dC : Nat → ClassId) (dI : Nat → Nat → Nat) (cI cJ cB : ClassId) (a_D a_D_types a_D_sortOf a_D_makes a_D_starts a_D_told a_D_row a_D_many a_D_ways a_D_base a_D_ruleOf a_D_sortAt a_D_from a_D_upTo a_D_firsts a_D_parts a_D_variables a_D_order a_D_pile a_D_next : Nat)  (D_symbols : Int32) (D_sorts : Int32) (D_rules : Int32) (D_isOpen : Int32) (D_all : Int32) (D_length : Int32) (D_isFound : Int32) (D_foundLimit : Int32) (D_nodes : Int32) (D_starts : Nat → Int32)  (sz : Nat) (n : Nat) (o : Int32 × Int32 × Int32 × Int32 × (Nat → Int32)) (hf : f_Ref_close n D_rules D_isOpen D_all D_isFound D_starts = some o) : Met l y_Ref_close w_Ref_close ({ frames := 0, cells := 0, slots := 0, locals := 0 }) (va_Pc [.ref a_D] (fun U => U.heap.size = sz ∧ va_P (dC, dI) vwCl [(a_D, .inr (6, [.int D_symbols, .ref a_D_types, .ref a_D_sortOf, .int D_sorts, .int D_rules, .int D_isOpen, .ref a_D_makes, .ref a_D_starts, .ref a_D_told, .int D_all, .ref a_D_row, .int D_length, .ref a_D_many, .ref a_D_ways, .ref a_D_base, .int D_isFound, .int D_foundLimit, .int D_nodes, .ref a_D_ruleOf, .ref a_D_sortAt, .ref a_D_from, .ref a_D_upTo, .ref a_D_firsts, .ref a_D_parts, .ref a_D_variables, .ref a_D_order, .ref a_D_pile, .ref a_D_next])), (a_D_starts, .inl (cI, 1501, .inl D_starts))] U.heap ∧ x_K (dC, dI) [(cI, .int), (cJ, .long), (cB, .byte)] U ∧ va_D (fun _ => True) [(a_D, .inr (6, [.int D_symbols, .ref a_D_types, .ref a_D_sortOf, .int D_sorts, .int D_rules, .int D_isOpen, .ref a_D_makes, .ref a_D_starts, .ref a_D_told, .int D_all, .ref a_D_row, .int D_length, .ref a_D_many, .ref a_D_ways, .ref a_D_base, .int D_isFound, .int D_foundLimit, .int D_nodes, .ref a_D_ruleOf, .ref a_D_sortAt, .ref a_D_from, .ref a_D_upTo, .ref a_D_firsts, .ref a_D_parts, .ref a_D_variables, .ref a_D_order, .ref a_D_pile, .ref a_D_next])), (a_D_starts, .inl (cI, 1501, .inl D_starts))])) (va_Qi (fun r (_ : Unit) => r = o.1) (fun _ t => va_P (dC, dI) vwCl [(a_D, .inr (6, [.int D_symbols, .ref a_D_types, .ref a_D_sortOf, .int D_sorts, .int o.2.1, .int o.2.2.1, .ref a_D_makes, .ref a_D_starts, .ref a_D_told, .int D_all, .ref a_D_row, .int D_length, .ref a_D_many, .ref a_D_ways, .ref a_D_base, .int o.2.2.2.1, .int D_foundLimit, .int D_nodes, .ref a_D_ruleOf, .ref a_D_sortAt, .ref a_D_from, .ref a_D_upTo, .ref a_D_firsts, .ref a_D_parts, .ref a_D_variables, .ref a_D_order, .ref a_D_pile, .ref a_D_next])), (a_D_starts, .inl (cI, 1501, .inl o.2.2.2.2))] t.heap ∧ va_D (va_A [(a_D, .inr (6, [.int D_symbols, .ref a_D_types, .ref a_D_sortOf, .int D_sorts, .int D_rules, .int D_isOpen, .ref a_D_makes, .ref a_D_starts, .ref a_D_told, .int D_all, .ref a_D_row, .int D_length, .ref a_D_many, .ref a_D_ways, .ref a_D_base, .int D_isFound, .int D_foundLimit, .int D_nodes, .ref a_D_ruleOf, .ref a_D_sortAt, .ref a_D_from, .ref a_D_upTo, .ref a_D_firsts, .ref a_D_parts, .ref a_D_variables, .ref a_D_order, .ref a_D_pile, .ref a_D_next])), (a_D_starts, .inl (cI, 1501, .inl D_starts))] sz) [(a_D, .inr (6, [.int D_symbols, .ref a_D_types, .ref a_D_sortOf, .int D_sorts, .int o.2.1, .int o.2.2.1, .ref a_D_makes, .ref a_D_starts, .ref a_D_told, .int D_all, .ref a_D_row, .int D_length, .ref a_D_many, .ref a_D_ways, .ref a_D_base, .int o.2.2.2.1, .int D_foundLimit, .int D_nodes, .ref a_D_ruleOf, .ref a_D_sortAt, .ref a_D_from, .ref a_D_upTo, .ref a_D_firsts, .ref a_D_parts, .ref a_D_variables, .ref a_D_order, .ref a_D_pile, .ref a_D_next])), (a_D_starts, .inl (cI, 1501, .inl o.2.2.2.2))]) (va_A [(a_D, .inr (6, [.int D_symbols, .ref a_D_types, .ref a_D_sortOf, .int D_sorts, .int D_rules, .int D_isOpen, .ref a_D_makes, .ref a_D_starts, .ref a_D_told, .int D_all, .ref a_D_row, .int D_length, .ref a_D_many, .ref a_D_ways, .ref a_D_base, .int D_isFound, .int D_foundLimit, .int D_nodes, .ref a_D_ruleOf, .ref a_D_sortAt, .ref a_D_from, .ref a_D_upTo, .ref a_D_firsts, .ref a_D_parts, .ref a_D_variables, .ref a_D_order, .ref a_D_pile, .ref a_D_next])), (a_D_starts, .inl (cI, 1501, .inl D_starts))] sz)) 0 0 (va_A [(a_D, .inr (6, [.int D_symbols, .ref a_D_types, .ref a_D_sortOf, .int D_sorts, .int D_rules, .int D_isOpen, .ref a_D_makes, .ref a_D_starts, .ref a_D_told, .int D_all, .ref a_D_row, .int D_length, .ref a_D_many, .ref a_D_ways, .ref a_D_base, .int D_isFound, .int D_foundLimit, .int D_nodes, .ref a_D_ruleOf, .ref a_D_sortAt, .ref a_D_from, .ref a_D_upTo, .ref a_D_firsts, .ref a_D_parts, .ref a_D_variables, .ref a_D_order, .ref a_D_pile, .ref a_D_next])), (a_D_starts, .inl (cI, 1501, .inl D_starts))] sz) := by
  refine Met.ofW (cc := b_Ref_close) (maxL := 1) (ret := (some .int)) (by decide +kernel) rfl ?_
  intro p e s m args below meth c s₁ B hml hv
  obtain ⟨rfl, hsz, hP, hK, hD0⟩ := hv
  have hx := B.exec
  have hb := B.bytes
  have hr := B.returns
  have hts := atoms_spec (ws := w_Ref_close) B.pre
  have hown : s.vm.findClass "SyntaxTreesModel" = some m.cls := findClass_of_methodNamed B.named
  have hlocks := B.notSynchronized
  subst hsz
  have hD := hD0.self (sz := s.heap.size)
  generalize hAe : va_A [(a_D, .inr (6, [.int D_symbols, .ref a_D_types, .ref a_D_sortOf, .int D_sorts, .int D_rules, .int D_isOpen, .ref a_D_makes, .ref a_D_starts, .ref a_D_told, .int D_all, .ref a_D_row, .int D_length, .ref a_D_many, .ref a_D_ways, .ref a_D_base, .int D_isFound, .int D_foundLimit, .int D_nodes, .ref a_D_ruleOf, .ref a_D_sortAt, .ref a_D_from, .ref a_D_upTo, .ref a_D_firsts, .ref a_D_parts, .ref a_D_variables, .ref a_D_order, .ref a_D_pile, .ref a_D_next])), (a_D_starts, .inl (cI, 1501, .inl D_starts))] s.heap.size = A at hD ⊢
  have hA : ∀ q : Nat, s.heap.size ≤ q → A q := fun q h => by rw [← hAe]; exact Or.inr h
  have hS : va_S A s.heap s.heap [] := va_S.rf
  have hP : va_P (dC, dI) vwCl [(a_D, .inr (6, [.int D_symbols, .ref a_D_types, .ref a_D_sortOf, .int D_sorts, .int D_rules, .int D_isOpen, .ref a_D_makes, .ref a_D_starts, .ref a_D_told, .int D_all, .ref a_D_row, .int D_length, .ref a_D_many, .ref a_D_ways, .ref a_D_base, .int D_isFound, .int D_foundLimit, .int D_nodes, .ref a_D_ruleOf, .ref a_D_sortAt, .ref a_D_from, .ref a_D_upTo, .ref a_D_firsts, .ref a_D_parts, .ref a_D_variables, .ref a_D_order, .ref a_D_pile, .ref a_D_next])), (a_D_starts, .inl (cI, 1501, .inl D_starts))] s.heap := hP
  have hl := lv_entry ([.ref a_D]) (n := 1) (Nat.le_of_ble_eq_true rfl)
  rw [lg_entry_eq]
  generalize (lg_sl ([.ref a_D]) ++ List.replicate (1 - (lg_sl ([.ref a_D])).length) Slot.unset).toArray = ls at hl ⊢
  have hl : lv_has ls 1 [(0, .ref a_D)] := hl
  refine x_Q (fun Q hQ => ?_)
  unfold f_Ref_close at hf
  refine lv_aload_n hx hb d_Ref_close_0 rfl (lv_at hl 0 rfl) ?_
  refine va_get (D := (dC, dI)) (ci := 6) (v := .int D_isOpen) (C := "SyntaxTreesModel") (T := F_Ref) (N := 28) hx hb hts (fun w h => List.mem_cons_of_mem _ (in_Ref w h)) hown hK.1 hP 0 rfl rfl 5 (by decide +kernel) (hts _ (List.mem_cons_of_mem _ m_512)) (fun _ h9 => h9) rfl d_Ref_close_1 ?_
  refine lv_if_eq (tgt := 23) hx hb d_Ref_close_4 (by decide +kernel) (fun c1 => ?_) (fun c1 => ?_)
  · have hf := x_pos c1 hf
    refine lv_iconst (v := (0 : Int32)) hx hb d_Ref_close_23 (by decide +kernel) ?_
    cases hf
    subst hQ
    exact W.iret hx hb hr (fun t ht _ => ⟨⟨_, (), rfl, rfl, by rw [ht]; exact hP, hD⟩, hS.F ht⟩) hS.2.2 d_Ref_close_24
  · have hf := x_neg c1 hf
    refine lv_aload_n hx hb d_Ref_close_7 rfl (lv_at hl 0 rfl) ?_
    refine va_get (D := (dC, dI)) (ci := 6) (v := .int D_all) (C := "SyntaxTreesModel") (T := F_Ref) (N := 28) hx hb hts (fun w h => List.mem_cons_of_mem _ (in_Ref w h)) hown hK.1 hP 0 rfl rfl 9 (by decide +kernel) (hts _ (List.mem_cons_of_mem _ m_516)) (fun _ h9 => h9) rfl d_Ref_close_8 ?_
    refine lv_aload_n hx hb d_Ref_close_11 rfl (lv_at hl 0 rfl) ?_
    refine va_get (D := (dC, dI)) (ci := 6) (v := .ref a_D_starts) (C := "SyntaxTreesModel") (T := F_Ref) (N := 28) hx hb hts (fun w h => List.mem_cons_of_mem _ (in_Ref w h)) hown hK.1 hP 0 rfl rfl 7 (by decide +kernel) (hts _ (List.mem_cons_of_mem _ m_514)) (fun _ h9 => h9) rfl d_Ref_close_12 ?_
    refine lv_aload_n hx hb d_Ref_close_15 rfl (lv_at hl 0 rfl) ?_
    refine va_get (D := (dC, dI)) (ci := 6) (v := .int D_rules) (C := "SyntaxTreesModel") (T := F_Ref) (N := 28) hx hb hts (fun w h => List.mem_cons_of_mem _ (in_Ref w h)) hown hK.1 hP 0 rfl rfl 4 (by decide +kernel) (hts _ (List.mem_cons_of_mem _ m_511)) (fun _ h9 => h9) rfl d_Ref_close_16 ?_
    obtain ⟨h2, hf⟩ := x_gd hf
    refine va_iald hx hb hK.1 hP 1 0 rfl rfl h2 d_Ref_close_19 ?_
    refine lv_icmp_ne (tgt := 25) hx hb d_Ref_close_20 (by decide +kernel) (fun c3 => ?_) (fun c3 => ?_)
    · have hf := x_neg c3 hf
      refine lv_aload_n hx hb d_Ref_close_25 rfl (lv_at hl 0 rfl) ?_
      refine lv_iconst (v := (0 : Int32)) hx hb d_Ref_close_26 (by decide +kernel) ?_
      refine x_put (D := (dC, dI)) (ci := 6) (v := .int (0 : Int32)) (ty := .boolean) (C := "SyntaxTreesModel") (T := F_Ref) (N := 28) (w1 := [(a_D, .inr (6, [.int D_symbols, .ref a_D_types, .ref a_D_sortOf, .int D_sorts, .int D_rules, .int (0 : Int32), .ref a_D_makes, .ref a_D_starts, .ref a_D_told, .int D_all, .ref a_D_row, .int D_length, .ref a_D_many, .ref a_D_ways, .ref a_D_base, .int D_isFound, .int D_foundLimit, .int D_nodes, .ref a_D_ruleOf, .ref a_D_sortAt, .ref a_D_from, .ref a_D_upTo, .ref a_D_firsts, .ref a_D_parts, .ref a_D_variables, .ref a_D_order, .ref a_D_pile, .ref a_D_next])), (a_D_starts, .inl (cI, 1501, .inl D_starts))]) hx hb hts (fun w h => List.mem_cons_of_mem _ (in_Ref w h)) t_Ref t_Ref_ok n_Ref hown hK.1 hP hD hS 0 rfl rfl 5 (by decide +kernel) (hts _ (List.mem_cons_of_mem _ m_512)) (fun _ h9 => h9) rfl (by decide +kernel) rfl rfl (Nat.le_of_ble_eq_true rfl) d_Ref_close_27 rfl (fun H locs hP hD hS => ?_)
      refine lv_aload_n hx hb d_Ref_close_30 rfl (lv_at hl 0 rfl) ?_
      refine lv_dup hx hb d_Ref_close_31 rfl ?_
      refine va_get (D := (dC, dI)) (ci := 6) (v := .int D_rules) (C := "SyntaxTreesModel") (T := F_Ref) (N := 28) hx hb hts (fun w h => List.mem_cons_of_mem _ (in_Ref w h)) hown hK.1 hP 0 rfl rfl 4 (by decide +kernel) (hts _ (List.mem_cons_of_mem _ m_511)) (fun _ h9 => h9) rfl d_Ref_close_32 ?_
      refine lv_iconst (v := (1 : Int32)) hx hb d_Ref_close_35 (by decide +kernel) ?_
      refine lv_iadd hx hb d_Ref_close_36 ?_
      refine x_put (D := (dC, dI)) (ci := 6) (v := .int (D_rules + (1 : Int32))) (ty := .int) (C := "SyntaxTreesModel") (T := F_Ref) (N := 28) (w1 := [(a_D, .inr (6, [.int D_symbols, .ref a_D_types, .ref a_D_sortOf, .int D_sorts, .int (D_rules + (1 : Int32)), .int (0 : Int32), .ref a_D_makes, .ref a_D_starts, .ref a_D_told, .int D_all, .ref a_D_row, .int D_length, .ref a_D_many, .ref a_D_ways, .ref a_D_base, .int D_isFound, .int D_foundLimit, .int D_nodes, .ref a_D_ruleOf, .ref a_D_sortAt, .ref a_D_from, .ref a_D_upTo, .ref a_D_firsts, .ref a_D_parts, .ref a_D_variables, .ref a_D_order, .ref a_D_pile, .ref a_D_next])), (a_D_starts, .inl (cI, 1501, .inl D_starts))]) hx hb hts (fun w h => List.mem_cons_of_mem _ (in_Ref w h)) t_Ref t_Ref_ok n_Ref hown hK.1 hP hD hS 0 rfl rfl 4 (by decide +kernel) (hts _ (List.mem_cons_of_mem _ m_511)) (fun _ h9 => h9) rfl (by decide +kernel) rfl rfl (Nat.le_of_ble_eq_true rfl) d_Ref_close_37 rfl (fun H locs hP hD hS => ?_)
      refine lv_aload_n hx hb d_Ref_close_40 rfl (lv_at hl 0 rfl) ?_
      refine va_get (D := (dC, dI)) (ci := 6) (v := .ref a_D_starts) (C := "SyntaxTreesModel") (T := F_Ref) (N := 28) hx hb hts (fun w h => List.mem_cons_of_mem _ (in_Ref w h)) hown hK.1 hP 0 rfl rfl 7 (by decide +kernel) (hts _ (List.mem_cons_of_mem _ m_514)) (fun _ h9 => h9) rfl d_Ref_close_41 ?_
      refine lv_aload_n hx hb d_Ref_close_44 rfl (lv_at hl 0 rfl) ?_
      refine va_get (D := (dC, dI)) (ci := 6) (v := .int (D_rules + (1 : Int32))) (C := "SyntaxTreesModel") (T := F_Ref) (N := 28) hx hb hts (fun w h => List.mem_cons_of_mem _ (in_Ref w h)) hown hK.1 hP 0 rfl rfl 4 (by decide +kernel) (hts _ (List.mem_cons_of_mem _ m_511)) (fun _ h9 => h9) rfl d_Ref_close_45 ?_
      refine lv_aload_n hx hb d_Ref_close_48 rfl (lv_at hl 0 rfl) ?_
      refine va_get (D := (dC, dI)) (ci := 6) (v := .int D_all) (C := "SyntaxTreesModel") (T := F_Ref) (N := 28) hx hb hts (fun w h => List.mem_cons_of_mem _ (in_Ref w h)) hown hK.1 hP 0 rfl rfl 9 (by decide +kernel) (hts _ (List.mem_cons_of_mem _ m_516)) (fun _ h9 => h9) rfl d_Ref_close_49 ?_
      obtain ⟨h4, hf⟩ := x_gd hf
      refine x_iast (w1 := [(a_D, .inr (6, [.int D_symbols, .ref a_D_types, .ref a_D_sortOf, .int D_sorts, .int (D_rules + (1 : Int32)), .int (0 : Int32), .ref a_D_makes, .ref a_D_starts, .ref a_D_told, .int D_all, .ref a_D_row, .int D_length, .ref a_D_many, .ref a_D_ways, .ref a_D_base, .int D_isFound, .int D_foundLimit, .int D_nodes, .ref a_D_ruleOf, .ref a_D_sortAt, .ref a_D_from, .ref a_D_upTo, .ref a_D_firsts, .ref a_D_parts, .ref a_D_variables, .ref a_D_order, .ref a_D_pile, .ref a_D_next])), (a_D_starts, .inl (cI, 1501, .inl (upd D_starts (D_rules + (1 : Int32)).toNatClampNeg D_all)))]) hx hb hK.1 hP hD hS 1 0 rfl rfl h4 d_Ref_close_52 rfl (fun H locs hP hD hS => ?_)
      refine lv_aload_n hx hb d_Ref_close_53 rfl (lv_at hl 0 rfl) ?_
      refine lv_iconst (v := (0 : Int32)) hx hb d_Ref_close_54 (by decide +kernel) ?_
      refine x_put (D := (dC, dI)) (ci := 6) (v := .int (0 : Int32)) (ty := .boolean) (C := "SyntaxTreesModel") (T := F_Ref) (N := 28) (w1 := [(a_D, .inr (6, [.int D_symbols, .ref a_D_types, .ref a_D_sortOf, .int D_sorts, .int (D_rules + (1 : Int32)), .int (0 : Int32), .ref a_D_makes, .ref a_D_starts, .ref a_D_told, .int D_all, .ref a_D_row, .int D_length, .ref a_D_many, .ref a_D_ways, .ref a_D_base, .int (0 : Int32), .int D_foundLimit, .int D_nodes, .ref a_D_ruleOf, .ref a_D_sortAt, .ref a_D_from, .ref a_D_upTo, .ref a_D_firsts, .ref a_D_parts, .ref a_D_variables, .ref a_D_order, .ref a_D_pile, .ref a_D_next])), (a_D_starts, .inl (cI, 1501, .inl (upd D_starts (D_rules + (1 : Int32)).toNatClampNeg D_all)))]) hx hb hts (fun w h => List.mem_cons_of_mem _ (in_Ref w h)) t_Ref t_Ref_ok n_Ref hown hK.1 hP hD hS 0 rfl rfl 15 (by decide +kernel) (hts _ (List.mem_cons_of_mem _ m_522)) (fun _ h9 => h9) rfl (by decide +kernel) rfl rfl (Nat.le_of_ble_eq_true rfl) d_Ref_close_55 rfl (fun H locs hP hD hS => ?_)
      refine lv_iconst (v := (1 : Int32)) hx hb d_Ref_close_58 (by decide +kernel) ?_
      cases hf
      subst hQ
      exact W.iret hx hb hr (fun t ht _ => ⟨⟨_, (), rfl, rfl, by rw [ht]; exact hP, hD⟩, hS.F ht⟩) hS.2.2 d_Ref_close_59
    · have hf := x_pos c3 hf
      refine lv_iconst (v := (0 : Int32)) hx hb d_Ref_close_23 (by decide +kernel) ?_
      cases hf
      subst hQ
      exact W.iret hx hb hr (fun t ht _ => ⟨⟨_, (), rfl, rfl, by rw [ht]; exact hP, hD⟩, hS.F ht⟩) hS.2.2 d_Ref_close_24
