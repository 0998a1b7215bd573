set_option maxHeartbeats 4000000 in
set_option maxRecDepth 100000 in
theorem c_Ref_unite (l : Launch) (dC : Nat → ClassId) (dI : Nat → Nat → Nat) (cI cJ cB : ClassId) (a_D a_D_types a_D_sortOf a_D_makes a_D_starts a_D_told a_D_row a_D_many a_D_ways a_D_base a_D_ruleOf a_D_sortAt a_D_from a_D_upTo a_D_firsts a_D_parts a_D_variables a_D_order a_D_pile a_D_next : Nat)  (D_symbols : Int32) (D_sorts : Int32) (D_rules : Int32) (D_isOpen : Int32) (D_all : Int32) (D_length : Int32) (D_isFound : Int32) (D_foundLimit : Int32) (D_nodes : Int32) (D_types : Nat → Int32) (D_sortOf : Nat → Int32) (D_makes : Nat → Int32) (D_starts : Nat → Int32) (D_told : Nat → Int32) (D_many : Nat → Int32) (D_base : Nat → Int32) (D_next : Nat → Int32) (p1 : Int32) (p2 : Int32) (p3 : Int32) (sz : Nat) (n : Nat) (o : (Nat → Int32) × (Nat → Int32)) (hf : f_Ref_unite n D_sorts D_types D_sortOf D_makes D_starts D_told D_many D_base D_next p1 p2 p3 = some o) : Met l y_Ref_unite w_Ref_unite ({ frames := 1, cells := 0, slots := 0, locals := 23 }) (va_Pc [.ref a_D, .int p1, .int p2, .int p3] (fun U => U.heap.size = sz ∧ va_P (dC, dI) vwCl [(a_D, .inr (6, [.int D_symbols, .ref a_D_types, .ref a_D_sortOf, .int D_sorts, .int D_rules, .int D_isOpen, .ref a_D_makes, .ref a_D_starts, .ref a_D_told, .int D_all, .ref a_D_row, .int D_length, .ref a_D_many, .ref a_D_ways, .ref a_D_base, .int D_isFound, .int D_foundLimit, .int D_nodes, .ref a_D_ruleOf, .ref a_D_sortAt, .ref a_D_from, .ref a_D_upTo, .ref a_D_firsts, .ref a_D_parts, .ref a_D_variables, .ref a_D_order, .ref a_D_pile, .ref a_D_next])), (a_D_types, .inl (cI, 1000, .inl D_types)), (a_D_sortOf, .inl (cI, 1000, .inl D_sortOf)), (a_D_makes, .inl (cI, 1500, .inl D_makes)), (a_D_starts, .inl (cI, 1501, .inl D_starts)), (a_D_told, .inl (cI, 30000, .inl D_told)), (a_D_many, .inl (cB, 360000, .inl D_many)), (a_D_base, .inl (cI, 100, .inl D_base)), (a_D_next, .inl (cI, 12000, .inl D_next))] U.heap ∧ x_K (dC, dI) [(cI, .int), (cJ, .long), (cB, .byte)] U ∧ va_D (fun _ => True) [(a_D, .inr (6, [.int D_symbols, .ref a_D_types, .ref a_D_sortOf, .int D_sorts, .int D_rules, .int D_isOpen, .ref a_D_makes, .ref a_D_starts, .ref a_D_told, .int D_all, .ref a_D_row, .int D_length, .ref a_D_many, .ref a_D_ways, .ref a_D_base, .int D_isFound, .int D_foundLimit, .int D_nodes, .ref a_D_ruleOf, .ref a_D_sortAt, .ref a_D_from, .ref a_D_upTo, .ref a_D_firsts, .ref a_D_parts, .ref a_D_variables, .ref a_D_order, .ref a_D_pile, .ref a_D_next])), (a_D_types, .inl (cI, 1000, .inl D_types)), (a_D_sortOf, .inl (cI, 1000, .inl D_sortOf)), (a_D_makes, .inl (cI, 1500, .inl D_makes)), (a_D_starts, .inl (cI, 1501, .inl D_starts)), (a_D_told, .inl (cI, 30000, .inl D_told)), (a_D_many, .inl (cB, 360000, .inl D_many)), (a_D_base, .inl (cI, 100, .inl D_base)), (a_D_next, .inl (cI, 12000, .inl D_next))])) (va_Qv (fun (_ : Unit) => True) (fun _ t => va_P (dC, dI) vwCl [(a_D, .inr (6, [.int D_symbols, .ref a_D_types, .ref a_D_sortOf, .int D_sorts, .int D_rules, .int D_isOpen, .ref a_D_makes, .ref a_D_starts, .ref a_D_told, .int D_all, .ref a_D_row, .int D_length, .ref a_D_many, .ref a_D_ways, .ref a_D_base, .int D_isFound, .int D_foundLimit, .int D_nodes, .ref a_D_ruleOf, .ref a_D_sortAt, .ref a_D_from, .ref a_D_upTo, .ref a_D_firsts, .ref a_D_parts, .ref a_D_variables, .ref a_D_order, .ref a_D_pile, .ref a_D_next])), (a_D_types, .inl (cI, 1000, .inl D_types)), (a_D_sortOf, .inl (cI, 1000, .inl D_sortOf)), (a_D_makes, .inl (cI, 1500, .inl D_makes)), (a_D_starts, .inl (cI, 1501, .inl D_starts)), (a_D_told, .inl (cI, 30000, .inl D_told)), (a_D_many, .inl (cB, 360000, .inl o.1)), (a_D_base, .inl (cI, 100, .inl D_base)), (a_D_next, .inl (cI, 12000, .inl o.2))] t.heap ∧ va_D (va_A [(a_D, .inr (6, [.int D_symbols, .ref a_D_types, .ref a_D_sortOf, .int D_sorts, .int D_rules, .int D_isOpen, .ref a_D_makes, .ref a_D_starts, .ref a_D_told, .int D_all, .ref a_D_row, .int D_length, .ref a_D_many, .ref a_D_ways, .ref a_D_base, .int D_isFound, .int D_foundLimit, .int D_nodes, .ref a_D_ruleOf, .ref a_D_sortAt, .ref a_D_from, .ref a_D_upTo, .ref a_D_firsts, .ref a_D_parts, .ref a_D_variables, .ref a_D_order, .ref a_D_pile, .ref a_D_next])), (a_D_types, .inl (cI, 1000, .inl D_types)), (a_D_sortOf, .inl (cI, 1000, .inl D_sortOf)), (a_D_makes, .inl (cI, 1500, .inl D_makes)), (a_D_starts, .inl (cI, 1501, .inl D_starts)), (a_D_told, .inl (cI, 30000, .inl D_told)), (a_D_many, .inl (cB, 360000, .inl D_many)), (a_D_base, .inl (cI, 100, .inl D_base)), (a_D_next, .inl (cI, 12000, .inl D_next))] sz) [(a_D, .inr (6, [.int D_symbols, .ref a_D_types, .ref a_D_sortOf, .int D_sorts, .int D_rules, .int D_isOpen, .ref a_D_makes, .ref a_D_starts, .ref a_D_told, .int D_all, .ref a_D_row, .int D_length, .ref a_D_many, .ref a_D_ways, .ref a_D_base, .int D_isFound, .int D_foundLimit, .int D_nodes, .ref a_D_ruleOf, .ref a_D_sortAt, .ref a_D_from, .ref a_D_upTo, .ref a_D_firsts, .ref a_D_parts, .ref a_D_variables, .ref a_D_order, .ref a_D_pile, .ref a_D_next])), (a_D_types, .inl (cI, 1000, .inl D_types)), (a_D_sortOf, .inl (cI, 1000, .inl D_sortOf)), (a_D_makes, .inl (cI, 1500, .inl D_makes)), (a_D_starts, .inl (cI, 1501, .inl D_starts)), (a_D_told, .inl (cI, 30000, .inl D_told)), (a_D_many, .inl (cB, 360000, .inl o.1)), (a_D_base, .inl (cI, 100, .inl D_base)), (a_D_next, .inl (cI, 12000, .inl o.2))]) (va_A [(a_D, .inr (6, [.int D_symbols, .ref a_D_types, .ref a_D_sortOf, .int D_sorts, .int D_rules, .int D_isOpen, .ref a_D_makes, .ref a_D_starts, .ref a_D_told, .int D_all, .ref a_D_row, .int D_length, .ref a_D_many, .ref a_D_ways, .ref a_D_base, .int D_isFound, .int D_foundLimit, .int D_nodes, .ref a_D_ruleOf, .ref a_D_sortAt, .ref a_D_from, .ref a_D_upTo, .ref a_D_firsts, .ref a_D_parts, .ref a_D_variables, .ref a_D_order, .ref a_D_pile, .ref a_D_next])), (a_D_types, .inl (cI, 1000, .inl D_types)), (a_D_sortOf, .inl (cI, 1000, .inl D_sortOf)), (a_D_makes, .inl (cI, 1500, .inl D_makes)), (a_D_starts, .inl (cI, 1501, .inl D_starts)), (a_D_told, .inl (cI, 30000, .inl D_told)), (a_D_many, .inl (cB, 360000, .inl D_many)), (a_D_base, .inl (cI, 100, .inl D_base)), (a_D_next, .inl (cI, 12000, .inl D_next))] sz)) 0 0 (va_A [(a_D, .inr (6, [.int D_symbols, .ref a_D_types, .ref a_D_sortOf, .int D_sorts, .int D_rules, .int D_isOpen, .ref a_D_makes, .ref a_D_starts, .ref a_D_told, .int D_all, .ref a_D_row, .int D_length, .ref a_D_many, .ref a_D_ways, .ref a_D_base, .int D_isFound, .int D_foundLimit, .int D_nodes, .ref a_D_ruleOf, .ref a_D_sortAt, .ref a_D_from, .ref a_D_upTo, .ref a_D_firsts, .ref a_D_parts, .ref a_D_variables, .ref a_D_order, .ref a_D_pile, .ref a_D_next])), (a_D_types, .inl (cI, 1000, .inl D_types)), (a_D_sortOf, .inl (cI, 1000, .inl D_sortOf)), (a_D_makes, .inl (cI, 1500, .inl D_makes)), (a_D_starts, .inl (cI, 1501, .inl D_starts)), (a_D_told, .inl (cI, 30000, .inl D_told)), (a_D_many, .inl (cB, 360000, .inl D_many)), (a_D_base, .inl (cI, 100, .inl D_base)), (a_D_next, .inl (cI, 12000, .inl D_next))] sz) := by
  refine Met.ofW (cc := b_Ref_unite) (maxL := 7) (ret := none) (by decide +kernel) rfl ?_
  intro p e s m args below meth c s₁ B hml hv
  obtain ⟨rfl, hsz, hP, hK, hD0⟩ := hv
  have hx := B.exec
  have hb := B.bytes
  have hr := B.returns
  have hts := atoms_spec (ws := w_Ref_unite) B.pre
  have hown : s.vm.findClass "SyntaxTreesModel" = some m.cls := findClass_of_methodNamed B.named
  have hlocks := B.notSynchronized
  subst hsz
  have hD := hD0.self (sz := s.heap.size)
  generalize hAe : va_A [(a_D, .inr (6, [.int D_symbols, .ref a_D_types, .ref a_D_sortOf, .int D_sorts, .int D_rules, .int D_isOpen, .ref a_D_makes, .ref a_D_starts, .ref a_D_told, .int D_all, .ref a_D_row, .int D_length, .ref a_D_many, .ref a_D_ways, .ref a_D_base, .int D_isFound, .int D_foundLimit, .int D_nodes, .ref a_D_ruleOf, .ref a_D_sortAt, .ref a_D_from, .ref a_D_upTo, .ref a_D_firsts, .ref a_D_parts, .ref a_D_variables, .ref a_D_order, .ref a_D_pile, .ref a_D_next])), (a_D_types, .inl (cI, 1000, .inl D_types)), (a_D_sortOf, .inl (cI, 1000, .inl D_sortOf)), (a_D_makes, .inl (cI, 1500, .inl D_makes)), (a_D_starts, .inl (cI, 1501, .inl D_starts)), (a_D_told, .inl (cI, 30000, .inl D_told)), (a_D_many, .inl (cB, 360000, .inl D_many)), (a_D_base, .inl (cI, 100, .inl D_base)), (a_D_next, .inl (cI, 12000, .inl D_next))] s.heap.size = A at hD ⊢
  have hA : ∀ q : Nat, s.heap.size ≤ q → A q := fun q h => by rw [← hAe]; exact Or.inr h
  have hS : va_S A s.heap s.heap [] := va_S.rf
  have hP : va_P (dC, dI) vwCl [(a_D, .inr (6, [.int D_symbols, .ref a_D_types, .ref a_D_sortOf, .int D_sorts, .int D_rules, .int D_isOpen, .ref a_D_makes, .ref a_D_starts, .ref a_D_told, .int D_all, .ref a_D_row, .int D_length, .ref a_D_many, .ref a_D_ways, .ref a_D_base, .int D_isFound, .int D_foundLimit, .int D_nodes, .ref a_D_ruleOf, .ref a_D_sortAt, .ref a_D_from, .ref a_D_upTo, .ref a_D_firsts, .ref a_D_parts, .ref a_D_variables, .ref a_D_order, .ref a_D_pile, .ref a_D_next])), (a_D_types, .inl (cI, 1000, .inl D_types)), (a_D_sortOf, .inl (cI, 1000, .inl D_sortOf)), (a_D_makes, .inl (cI, 1500, .inl D_makes)), (a_D_starts, .inl (cI, 1501, .inl D_starts)), (a_D_told, .inl (cI, 30000, .inl D_told)), (a_D_many, .inl (cB, 360000, .inl D_many)), (a_D_base, .inl (cI, 100, .inl D_base)), (a_D_next, .inl (cI, 12000, .inl D_next))] s.heap := hP
  have hl := lv_entry ([.ref a_D, .int p1, .int p2, .int p3]) (n := 7) (Nat.le_of_ble_eq_true rfl)
  rw [lg_entry_eq]
  generalize (lg_sl ([.ref a_D, .int p1, .int p2, .int p3]) ++ List.replicate (7 - (lg_sl ([.ref a_D, .int p1, .int p2, .int p3])).length) Slot.unset).toArray = ls at hl ⊢
  have hl : lv_has ls 7 [(0, .ref a_D), (1, .int p1), (2, .int p2), (3, .int p3)] := hl
  refine x_Q (fun Q hQ => ?_)
  unfold f_Ref_unite at hf
  refine lv_iconst (v := (0 : Int32)) hx hb d_Ref_unite_0 (by decide +kernel) ?_
  refine lv_istore (lv' := [(4, .int (0 : Int32)), (0, .ref a_D), (1, .int p1), (2, .int p2), (3, .int p3)]) hx hb d_Ref_unite_1 hl (by decide +kernel) rfl (fun ls hl => ?_)
  obtain ⟨x1, hx1, hf⟩ := x_bd hf
  refine w_Ref_unite_L3 n p1 p2 p3 D_symbols D_sorts D_rules D_isOpen D_all D_length D_isFound D_foundLimit D_nodes D_types D_sortOf D_makes D_starts D_told D_base D_next hx hb hml hown hts hK hA n (0 : Int32) D_many x1 _ _ ls hx1 hP hD hS (lv_sub hl [0, 1, 2, 3, 4] rfl) (fun H locs ls hP hD hS hl => ?_)
  refine lv_iconst (v := (1 : Int32)) hx hb d_Ref_unite_44 (by decide +kernel) ?_
  refine lv_istore (lv' := [(4, .int (1 : Int32)), (0, .ref a_D), (1, .int p1), (2, .int p2), (3, .int p3)]) hx hb d_Ref_unite_45 hl (by decide +kernel) rfl (fun ls hl => ?_)
  obtain ⟨x2, hx2, hf⟩ := x_bd hf
  refine w_Ref_unite_L47 n p1 p2 p3 D_symbols D_sorts D_rules D_isOpen D_all D_length D_isFound D_foundLimit D_nodes D_types D_sortOf D_makes D_starts D_told D_base hx hb hml hown hts hK hA n (1 : Int32) x1.2 D_next x2 _ _ ls hx2 hP hD hS (lv_sub hl [0, 1, 2, 3, 4] rfl) (fun H locs ls hP hD hS hl => ?_)
  cases hf
  subst hQ
  exact W.vret hx hb hr (fun t ht _ => ⟨⟨(), rfl, trivial, by rw [ht]; exact hP, hD⟩, hS.F ht⟩) hS.2.2 d_Ref_unite_270
set_option maxHeartbeats 4000000 in
set_option maxRecDepth 100000 in
theorem c_Ref_lay (l : Launch) (dC : Nat → ClassId) (dI : Nat → Nat → Nat) (cI cJ cB : ClassId) (a_D a_D_types a_D_sortOf a_D_makes a_D_starts a_D_told a_D_row a_D_many a_D_ways a_D_base a_D_ruleOf a_D_sortAt a_D_from a_D_upTo a_D_firsts a_D_parts a_D_variables a_D_order a_D_pile a_D_next : Nat)  (D_symbols : Int32) (D_sorts : Int32) (D_rules : Int32) (D_isOpen : Int32) (D_all : Int32) (D_length : Int32) (D_isFound : Int32) (D_foundLimit : Int32) (D_nodes : Int32) (D_ruleOf : Nat → Int32) (D_sortAt : Nat → Int32) (D_from : Nat → Int32) (D_upTo : Nat → Int32) (D_firsts : Nat → Int32) (D_parts : Nat → Int32) (D_variables : Nat → Int32) (p1 : Int32) (p2 : Int32) (p3 : Int32) (sz : Nat) (n : Nat) (o : Int32 × (Nat → Int32) × (Nat → Int32) × (Nat → Int32) × (Nat → Int32) × (Nat → Int32) × (Nat → Int32) × (Nat → Int32)) (hf : f_Ref_lay n D_nodes D_ruleOf D_sortAt D_from D_upTo D_firsts D_parts D_variables p1 p2 p3 = some o) : Met l y_Ref_lay w_Ref_lay ({ frames := 0, cells := 0, slots := 0, locals := 0 }) (va_Pc [.ref a_D, .int p1, .int p2, .int p3] (fun U => U.heap.size = sz ∧ va_P (dC, dI) vwCl [(a_D, .inr (6, [.int D_symbols, .ref a_D_types, .ref a_D_sortOf, .int D_sorts, .int D_rules, .int D_isOpen, .ref a_D_makes, .ref a_D_starts, .ref a_D_told, .int D_all, .ref a_D_row, .int D_length, .ref a_D_many, .ref a_D_ways, .ref a_D_base, .int D_isFound, .int D_foundLimit, .int D_nodes, .ref a_D_ruleOf, .ref a_D_sortAt, .ref a_D_from, .ref a_D_upTo, .ref a_D_firsts, .ref a_D_parts, .ref a_D_variables, .ref a_D_order, .ref a_D_pile, .ref a_D_next])), (a_D_ruleOf, .inl (cI, 12000, .inl D_ruleOf)), (a_D_sortAt, .inl (cI, 12000, .inl D_sortAt)), (a_D_from, .inl (cI, 12000, .inl D_from)), (a_D_upTo, .inl (cI, 12000, .inl D_upTo)), (a_D_firsts, .inl (cI, 12000, .inl D_firsts)), (a_D_parts, .inl (cI, 12000, .inl D_parts)), (a_D_variables, .inl (cI, 12000, .inl D_variables))] U.heap ∧ x_K (dC, dI) [(cI, .int), (cJ, .long), (cB, .byte)] U ∧ va_D (fun _ => True) [(a_D, .inr (6, [.int D_symbols, .ref a_D_types, .ref a_D_sortOf, .int D_sorts, .int D_rules, .int D_isOpen, .ref a_D_makes, .ref a_D_starts, .ref a_D_told, .int D_all, .ref a_D_row, .int D_length, .ref a_D_many, .ref a_D_ways, .ref a_D_base, .int D_isFound, .int D_foundLimit, .int D_nodes, .ref a_D_ruleOf, .ref a_D_sortAt, .ref a_D_from, .ref a_D_upTo, .ref a_D_firsts, .ref a_D_parts, .ref a_D_variables, .ref a_D_order, .ref a_D_pile, .ref a_D_next])), (a_D_ruleOf, .inl (cI, 12000, .inl D_ruleOf)), (a_D_sortAt, .inl (cI, 12000, .inl D_sortAt)), (a_D_from, .inl (cI, 12000, .inl D_from)), (a_D_upTo, .inl (cI, 12000, .inl D_upTo)), (a_D_firsts, .inl (cI, 12000, .inl D_firsts)), (a_D_parts, .inl (cI, 12000, .inl D_parts)), (a_D_variables, .inl (cI, 12000, .inl D_variables))])) (va_Qv (fun (_ : Unit) => True) (fun _ t => va_P (dC, dI) vwCl [(a_D, .inr (6, [.int D_symbols, .ref a_D_types, .ref a_D_sortOf, .int D_sorts, .int D_rules, .int D_isOpen, .ref a_D_makes, .ref a_D_starts, .ref a_D_told, .int D_all, .ref a_D_row, .int D_length, .ref a_D_many, .ref a_D_ways, .ref a_D_base, .int D_isFound, .int D_foundLimit, .int o.1, .ref a_D_ruleOf, .ref a_D_sortAt, .ref a_D_from, .ref a_D_upTo, .ref a_D_firsts, .ref a_D_parts, .ref a_D_variables, .ref a_D_order, .ref a_D_pile, .ref a_D_next])), (a_D_ruleOf, .inl (cI, 12000, .inl o.2.1)), (a_D_sortAt, .inl (cI, 12000, .inl o.2.2.1)), (a_D_from, .inl (cI, 12000, .inl o.2.2.2.1)), (a_D_upTo, .inl (cI, 12000, .inl o.2.2.2.2.1)), (a_D_firsts, .inl (cI, 12000, .inl o.2.2.2.2.2.1)), (a_D_parts, .inl (cI, 12000, .inl o.2.2.2.2.2.2.1)), (a_D_variables, .inl (cI, 12000, .inl o.2.2.2.2.2.2.2))] t.heap ∧ va_D (va_A [(a_D, .inr (6, [.int D_symbols, .ref a_D_types, .ref a_D_sortOf, .int D_sorts, .int D_rules, .int D_isOpen, .ref a_D_makes, .ref a_D_starts, .ref a_D_told, .int D_all, .ref a_D_row, .int D_length, .ref a_D_many, .ref a_D_ways, .ref a_D_base, .int D_isFound, .int D_foundLimit, .int D_nodes, .ref a_D_ruleOf, .ref a_D_sortAt, .ref a_D_from, .ref a_D_upTo, .ref a_D_firsts, .ref a_D_parts, .ref a_D_variables, .ref a_D_order, .ref a_D_pile, .ref a_D_next])), (a_D_ruleOf, .inl (cI, 12000, .inl D_ruleOf)), (a_D_sortAt, .inl (cI, 12000, .inl D_sortAt)), (a_D_from, .inl (cI, 12000, .inl D_from)), (a_D_upTo, .inl (cI, 12000, .inl D_upTo)), (a_D_firsts, .inl (cI, 12000, .inl D_firsts)), (a_D_parts, .inl (cI, 12000, .inl D_parts)), (a_D_variables, .inl (cI, 12000, .inl D_variables))] sz) [(a_D, .inr (6, [.int D_symbols, .ref a_D_types, .ref a_D_sortOf, .int D_sorts, .int D_rules, .int D_isOpen, .ref a_D_makes, .ref a_D_starts, .ref a_D_told, .int D_all, .ref a_D_row, .int D_length, .ref a_D_many, .ref a_D_ways, .ref a_D_base, .int D_isFound, .int D_foundLimit, .int o.1, .ref a_D_ruleOf, .ref a_D_sortAt, .ref a_D_from, .ref a_D_upTo, .ref a_D_firsts, .ref a_D_parts, .ref a_D_variables, .ref a_D_order, .ref a_D_pile, .ref a_D_next])), (a_D_ruleOf, .inl (cI, 12000, .inl o.2.1)), (a_D_sortAt, .inl (cI, 12000, .inl o.2.2.1)), (a_D_from, .inl (cI, 12000, .inl o.2.2.2.1)), (a_D_upTo, .inl (cI, 12000, .inl o.2.2.2.2.1)), (a_D_firsts, .inl (cI, 12000, .inl o.2.2.2.2.2.1)), (a_D_parts, .inl (cI, 12000, .inl o.2.2.2.2.2.2.1)), (a_D_variables, .inl (cI, 12000, .inl o.2.2.2.2.2.2.2))]) (va_A [(a_D, .inr (6, [.int D_symbols, .ref a_D_types, .ref a_D_sortOf, .int D_sorts, .int D_rules, .int D_isOpen, .ref a_D_makes, .ref a_D_starts, .ref a_D_told, .int D_all, .ref a_D_row, .int D_length, .ref a_D_many, .ref a_D_ways, .ref a_D_base, .int D_isFound, .int D_foundLimit, .int D_nodes, .ref a_D_ruleOf, .ref a_D_sortAt, .ref a_D_from, .ref a_D_upTo, .ref a_D_firsts, .ref a_D_parts, .ref a_D_variables, .ref a_D_order, .ref a_D_pile, .ref a_D_next])), (a_D_ruleOf, .inl (cI, 12000, .inl D_ruleOf)), (a_D_sortAt, .inl (cI, 12000, .inl D_sortAt)), (a_D_from, .inl (cI, 12000, .inl D_from)), (a_D_upTo, .inl (cI, 12000, .inl D_upTo)), (a_D_firsts, .inl (cI, 12000, .inl D_firsts)), (a_D_parts, .inl (cI, 12000, .inl D_parts)), (a_D_variables, .inl (cI, 12000, .inl D_variables))] sz)) 0 0 (va_A [(a_D, .inr (6, [.int D_symbols, .ref a_D_types, .ref a_D_sortOf, .int D_sorts, .int D_rules, .int D_isOpen, .ref a_D_makes, .ref a_D_starts, .ref a_D_told, .int D_all, .ref a_D_row, .int D_length, .ref a_D_many, .ref a_D_ways, .ref a_D_base, .int D_isFound, .int D_foundLimit, .int D_nodes, .ref a_D_ruleOf, .ref a_D_sortAt, .ref a_D_from, .ref a_D_upTo, .ref a_D_firsts, .ref a_D_parts, .ref a_D_variables, .ref a_D_order, .ref a_D_pile, .ref a_D_next])), (a_D_ruleOf, .inl (cI, 12000, .inl D_ruleOf)), (a_D_sortAt, .inl (cI, 12000, .inl D_sortAt)), (a_D_from, .inl (cI, 12000, .inl D_from)), (a_D_upTo, .inl (cI, 12000, .inl D_upTo)), (a_D_firsts, .inl (cI, 12000, .inl D_firsts)), (a_D_parts, .inl (cI, 12000, .inl D_parts)), (a_D_variables, .inl (cI, 12000, .inl D_variables))] sz) := by
  refine Met.ofW (cc := b_Ref_lay) (maxL := 4) (ret := none) (by decide +kernel) rfl ?_
  intro p e s m args below meth c s₁ B hml hv
  obtain ⟨rfl, hsz, hP, hK, hD0⟩ := hv
  have hx := B.exec
  have hb := B.bytes
  have hr := B.returns
  have hts := atoms_spec (ws := w_Ref_lay) B.pre
  have hown : s.vm.findClass "SyntaxTreesModel" = some m.cls := findClass_of_methodNamed B.named
  have hlocks := B.notSynchronized
  subst hsz
  have hD := hD0.self (sz := s.heap.size)
  generalize hAe : va_A [(a_D, .inr (6, [.int D_symbols, .ref a_D_types, .ref a_D_sortOf, .int D_sorts, .int D_rules, .int D_isOpen, .ref a_D_makes, .ref a_D_starts, .ref a_D_told, .int D_all, .ref a_D_row, .int D_length, .ref a_D_many, .ref a_D_ways, .ref a_D_base, .int D_isFound, .int D_foundLimit, .int D_nodes, .ref a_D_ruleOf, .ref a_D_sortAt, .ref a_D_from, .ref a_D_upTo, .ref a_D_firsts, .ref a_D_parts, .ref a_D_variables, .ref a_D_order, .ref a_D_pile, .ref a_D_next])), (a_D_ruleOf, .inl (cI, 12000, .inl D_ruleOf)), (a_D_sortAt, .inl (cI, 12000, .inl D_sortAt)), (a_D_from, .inl (cI, 12000, .inl D_from)), (a_D_upTo, .inl (cI, 12000, .inl D_upTo)), (a_D_firsts, .inl (cI, 12000, .inl D_firsts)), (a_D_parts, .inl (cI, 12000, .inl D_parts)), (a_D_variables, .inl (cI, 12000, .inl D_variables))] s.heap.size = A at hD ⊢
  have hA : ∀ q : Nat, s.heap.size ≤ q → A q := fun q h => by rw [← hAe]; exact Or.inr h
  have hS : va_S A s.heap s.heap [] := va_S.rf
  have hP : va_P (dC, dI) vwCl [(a_D, .inr (6, [.int D_symbols, .ref a_D_types, .ref a_D_sortOf, .int D_sorts, .int D_rules, .int D_isOpen, .ref a_D_makes, .ref a_D_starts, .ref a_D_told, .int D_all, .ref a_D_row, .int D_length, .ref a_D_many, .ref a_D_ways, .ref a_D_base, .int D_isFound, .int D_foundLimit, .int D_nodes, .ref a_D_ruleOf, .ref a_D_sortAt, .ref a_D_from, .ref a_D_upTo, .ref a_D_firsts, .ref a_D_parts, .ref a_D_variables, .ref a_D_order, .ref a_D_pile, .ref a_D_next])), (a_D_ruleOf, .inl (cI, 12000, .inl D_ruleOf)), (a_D_sortAt, .inl (cI, 12000, .inl D_sortAt)), (a_D_from, .inl (cI, 12000, .inl D_from)), (a_D_upTo, .inl (cI, 12000, .inl D_upTo)), (a_D_firsts, .inl (cI, 12000, .inl D_firsts)), (a_D_parts, .inl (cI, 12000, .inl D_parts)), (a_D_variables, .inl (cI, 12000, .inl D_variables))] s.heap := hP
  have hl := lv_entry ([.ref a_D, .int p1, .int p2, .int p3]) (n := 4) (Nat.le_of_ble_eq_true rfl)
  rw [lg_entry_eq]
  generalize (lg_sl ([.ref a_D, .int p1, .int p2, .int p3]) ++ List.replicate (4 - (lg_sl ([.ref a_D, .int p1, .int p2, .int p3])).length) Slot.unset).toArray = ls at hl ⊢
  have hl : lv_has ls 4 [(0, .ref a_D), (1, .int p1), (2, .int p2), (3, .int p3)] := hl
  refine x_Q (fun Q hQ => ?_)
  unfold f_Ref_lay at hf
  refine lv_aload_n hx hb d_Ref_lay_0 rfl (lv_at hl 0 rfl) ?_
  refine va_get (D := (dC, dI)) (ci := 6) (v := .ref a_D_sortAt) (C := "SyntaxTreesModel") (T := F_Ref) (N := 28) hx hb hts (fun w h => List.mem_cons_of_mem _ (in_Ref w h)) hown hK.1 hP 0 rfl rfl 19 (by decide +kernel) (hts _ (List.mem_cons_of_mem _ m_526)) (fun _ h9 => h9) rfl d_Ref_lay_1 ?_
  refine lv_aload_n hx hb d_Ref_lay_4 rfl (lv_at hl 0 rfl) ?_
  refine va_get (D := (dC, dI)) (ci := 6) (v := .int D_nodes) (C := "SyntaxTreesModel") (T := F_Ref) (N := 28) hx hb hts (fun w h => List.mem_cons_of_mem _ (in_Ref w h)) hown hK.1 hP 0 rfl rfl 17 (by decide +kernel) (hts _ (List.mem_cons_of_mem _ m_524)) (fun _ h9 => h9) rfl d_Ref_lay_5 ?_
  refine lv_iload_n hx hb d_Ref_lay_8 rfl (lv_at hl 1 rfl) ?_
  obtain ⟨h1, hf⟩ := x_gd hf
  refine x_iast (w1 := [(a_D, .inr (6, [.int D_symbols, .ref a_D_types, .ref a_D_sortOf, .int D_sorts, .int D_rules, .int D_isOpen, .ref a_D_makes, .ref a_D_starts, .ref a_D_told, .int D_all, .ref a_D_row, .int D_length, .ref a_D_many, .ref a_D_ways, .ref a_D_base, .int D_isFound, .int D_foundLimit, .int D_nodes, .ref a_D_ruleOf, .ref a_D_sortAt, .ref a_D_from, .ref a_D_upTo, .ref a_D_firsts, .ref a_D_parts, .ref a_D_variables, .ref a_D_order, .ref a_D_pile, .ref a_D_next])), (a_D_ruleOf, .inl (cI, 12000, .inl D_ruleOf)), (a_D_sortAt, .inl (cI, 12000, .inl (upd D_sortAt D_nodes.toNatClampNeg p1))), (a_D_from, .inl (cI, 12000, .inl D_from)), (a_D_upTo, .inl (cI, 12000, .inl D_upTo)), (a_D_firsts, .inl (cI, 12000, .inl D_firsts)), (a_D_parts, .inl (cI, 12000, .inl D_parts)), (a_D_variables, .inl (cI, 12000, .inl D_variables))]) hx hb hK.1 hP hD hS 2 0 rfl rfl h1 d_Ref_lay_9 rfl (fun H locs hP hD hS => ?_)
  refine lv_aload_n hx hb d_Ref_lay_10 rfl (lv_at hl 0 rfl) ?_
  refine va_get (D := (dC, dI)) (ci := 6) (v := .ref a_D_from) (C := "SyntaxTreesModel") (T := F_Ref) (N := 28) hx hb hts (fun w h => List.mem_cons_of_mem _ (in_Ref w h)) hown hK.1 hP 0 rfl rfl 20 (by decide +kernel) (hts _ (List.mem_cons_of_mem _ m_527)) (fun _ h9 => h9) rfl d_Ref_lay_11 ?_
  refine lv_aload_n hx hb d_Ref_lay_14 rfl (lv_at hl 0 rfl) ?_
  refine va_get (D := (dC, dI)) (ci := 6) (v := .int D_nodes) (C := "SyntaxTreesModel") (T := F_Ref) (N := 28) hx hb hts (fun w h => List.mem_cons_of_mem _ (in_Ref w h)) hown hK.1 hP 0 rfl rfl 17 (by decide +kernel) (hts _ (List.mem_cons_of_mem _ m_524)) (fun _ h9 => h9) rfl d_Ref_lay_15 ?_
  refine lv_iload_n hx hb d_Ref_lay_18 rfl (lv_at hl 2 rfl) ?_
  obtain ⟨h2, hf⟩ := x_gd hf
  refine x_iast (w1 := [(a_D, .inr (6, [.int D_symbols, .ref a_D_types, .ref a_D_sortOf, .int D_sorts, .int D_rules, .int D_isOpen, .ref a_D_makes, .ref a_D_starts, .ref a_D_told, .int D_all, .ref a_D_row, .int D_length, .ref a_D_many, .ref a_D_ways, .ref a_D_base, .int D_isFound, .int D_foundLimit, .int D_nodes, .ref a_D_ruleOf, .ref a_D_sortAt, .ref a_D_from, .ref a_D_upTo, .ref a_D_firsts, .ref a_D_parts, .ref a_D_variables, .ref a_D_order, .ref a_D_pile, .ref a_D_next])), (a_D_ruleOf, .inl (cI, 12000, .inl D_ruleOf)), (a_D_sortAt, .inl (cI, 12000, .inl (upd D_sortAt D_nodes.toNatClampNeg p1))), (a_D_from, .inl (cI, 12000, .inl (upd D_from D_nodes.toNatClampNeg p2))), (a_D_upTo, .inl (cI, 12000, .inl D_upTo)), (a_D_firsts, .inl (cI, 12000, .inl D_firsts)), (a_D_parts, .inl (cI, 12000, .inl D_parts)), (a_D_variables, .inl (cI, 12000, .inl D_variables))]) hx hb hK.1 hP hD hS 3 0 rfl rfl h2 d_Ref_lay_19 rfl (fun H locs hP hD hS => ?_)
  refine lv_aload_n hx hb d_Ref_lay_20 rfl (lv_at hl 0 rfl) ?_
  refine va_get (D := (dC, dI)) (ci := 6) (v := .ref a_D_upTo) (C := "SyntaxTreesModel") (T := F_Ref) (N := 28) hx hb hts (fun w h => List.mem_cons_of_mem _ (in_Ref w h)) hown hK.1 hP 0 rfl rfl 21 (by decide +kernel) (hts _ (List.mem_cons_of_mem _ m_528)) (fun _ h9 => h9) rfl d_Ref_lay_21 ?_
  refine lv_aload_n hx hb d_Ref_lay_24 rfl (lv_at hl 0 rfl) ?_
  refine va_get (D := (dC, dI)) (ci := 6) (v := .int D_nodes) (C := "SyntaxTreesModel") (T := F_Ref) (N := 28) hx hb hts (fun w h => List.mem_cons_of_mem _ (in_Ref w h)) hown hK.1 hP 0 rfl rfl 17 (by decide +kernel) (hts _ (List.mem_cons_of_mem _ m_524)) (fun _ h9 => h9) rfl d_Ref_lay_25 ?_
  refine lv_iload_n hx hb d_Ref_lay_28 rfl (lv_at hl 3 rfl) ?_
  obtain ⟨h3, hf⟩ := x_gd hf
  refine x_iast (w1 := [(a_D, .inr (6, [.int D_symbols, .ref a_D_types, .ref a_D_sortOf, .int D_sorts, .int D_rules, .int D_isOpen, .ref a_D_makes, .ref a_D_starts, .ref a_D_told, .int D_all, .ref a_D_row, .int D_length, .ref a_D_many, .ref a_D_ways, .ref a_D_base, .int D_isFound, .int D_foundLimit, .int D_nodes, .ref a_D_ruleOf, .ref a_D_sortAt, .ref a_D_from, .ref a_D_upTo, .ref a_D_firsts, .ref a_D_parts, .ref a_D_variables, .ref a_D_order, .ref a_D_pile, .ref a_D_next])), (a_D_ruleOf, .inl (cI, 12000, .inl D_ruleOf)), (a_D_sortAt, .inl (cI, 12000, .inl (upd D_sortAt D_nodes.toNatClampNeg p1))), (a_D_from, .inl (cI, 12000, .inl (upd D_from D_nodes.toNatClampNeg p2))), (a_D_upTo, .inl (cI, 12000, .inl (upd D_upTo D_nodes.toNatClampNeg p3))), (a_D_firsts, .inl (cI, 12000, .inl D_firsts)), (a_D_parts, .inl (cI, 12000, .inl D_parts)), (a_D_variables, .inl (cI, 12000, .inl D_variables))]) hx hb hK.1 hP hD hS 4 0 rfl rfl h3 d_Ref_lay_29 rfl (fun H locs hP hD hS => ?_)
  refine lv_aload_n hx hb d_Ref_lay_30 rfl (lv_at hl 0 rfl) ?_
  refine va_get (D := (dC, dI)) (ci := 6) (v := .ref a_D_ruleOf) (C := "SyntaxTreesModel") (T := F_Ref) (N := 28) hx hb hts (fun w h => List.mem_cons_of_mem _ (in_Ref w h)) hown hK.1 hP 0 rfl rfl 18 (by decide +kernel) (hts _ (List.mem_cons_of_mem _ m_525)) (fun _ h9 => h9) rfl d_Ref_lay_31 ?_
  refine lv_aload_n hx hb d_Ref_lay_34 rfl (lv_at hl 0 rfl) ?_
  refine va_get (D := (dC, dI)) (ci := 6) (v := .int D_nodes) (C := "SyntaxTreesModel") (T := F_Ref) (N := 28) hx hb hts (fun w h => List.mem_cons_of_mem _ (in_Ref w h)) hown hK.1 hP 0 rfl rfl 17 (by decide +kernel) (hts _ (List.mem_cons_of_mem _ m_524)) (fun _ h9 => h9) rfl d_Ref_lay_35 ?_
  refine lv_iconst (v := (-1 : Int32)) hx hb d_Ref_lay_38 (by decide +kernel) ?_
  obtain ⟨h4, hf⟩ := x_gd hf
  refine x_iast (w1 := [(a_D, .inr (6, [.int D_symbols, .ref a_D_types, .ref a_D_sortOf, .int D_sorts, .int D_rules, .int D_isOpen, .ref a_D_makes, .ref a_D_starts, .ref a_D_told, .int D_all, .ref a_D_row, .int D_length, .ref a_D_many, .ref a_D_ways, .ref a_D_base, .int D_isFound, .int D_foundLimit, .int D_nodes, .ref a_D_ruleOf, .ref a_D_sortAt, .ref a_D_from, .ref a_D_upTo, .ref a_D_firsts, .ref a_D_parts, .ref a_D_variables, .ref a_D_order, .ref a_D_pile, .ref a_D_next])), (a_D_ruleOf, .inl (cI, 12000, .inl (upd D_ruleOf D_nodes.toNatClampNeg (-1 : Int32)))), (a_D_sortAt, .inl (cI, 12000, .inl (upd D_sortAt D_nodes.toNatClampNeg p1))), (a_D_from, .inl (cI, 12000, .inl (upd D_from D_nodes.toNatClampNeg p2))), (a_D_upTo, .inl (cI, 12000, .inl (upd D_upTo D_nodes.toNatClampNeg p3))), (a_D_firsts, .inl (cI, 12000, .inl D_firsts)), (a_D_parts, .inl (cI, 12000, .inl D_parts)), (a_D_variables, .inl (cI, 12000, .inl D_variables))]) hx hb hK.1 hP hD hS 1 0 rfl rfl h4 d_Ref_lay_39 rfl (fun H locs hP hD hS => ?_)
  refine lv_aload_n hx hb d_Ref_lay_40 rfl (lv_at hl 0 rfl) ?_
  refine va_get (D := (dC, dI)) (ci := 6) (v := .ref a_D_variables) (C := "SyntaxTreesModel") (T := F_Ref) (N := 28) hx hb hts (fun w h => List.mem_cons_of_mem _ (in_Ref w h)) hown hK.1 hP 0 rfl rfl 24 (by decide +kernel) (hts _ (List.mem_cons_of_mem _ m_531)) (fun _ h9 => h9) rfl d_Ref_lay_41 ?_
  refine lv_aload_n hx hb d_Ref_lay_44 rfl (lv_at hl 0 rfl) ?_
  refine va_get (D := (dC, dI)) (ci := 6) (v := .int D_nodes) (C := "SyntaxTreesModel") (T := F_Ref) (N := 28) hx hb hts (fun w h => List.mem_cons_of_mem _ (in_Ref w h)) hown hK.1 hP 0 rfl rfl 17 (by decide +kernel) (hts _ (List.mem_cons_of_mem _ m_524)) (fun _ h9 => h9) rfl d_Ref_lay_45 ?_
  refine lv_iconst (v := (-1 : Int32)) hx hb d_Ref_lay_48 (by decide +kernel) ?_
  obtain ⟨h5, hf⟩ := x_gd hf
  refine x_iast (w1 := [(a_D, .inr (6, [.int D_symbols, .ref a_D_types, .ref a_D_sortOf, .int D_sorts, .int D_rules, .int D_isOpen, .ref a_D_makes, .ref a_D_starts, .ref a_D_told, .int D_all, .ref a_D_row, .int D_length, .ref a_D_many, .ref a_D_ways, .ref a_D_base, .int D_isFound, .int D_foundLimit, .int D_nodes, .ref a_D_ruleOf, .ref a_D_sortAt, .ref a_D_from, .ref a_D_upTo, .ref a_D_firsts, .ref a_D_parts, .ref a_D_variables, .ref a_D_order, .ref a_D_pile, .ref a_D_next])), (a_D_ruleOf, .inl (cI, 12000, .inl (upd D_ruleOf D_nodes.toNatClampNeg (-1 : Int32)))), (a_D_sortAt, .inl (cI, 12000, .inl (upd D_sortAt D_nodes.toNatClampNeg p1))), (a_D_from, .inl (cI, 12000, .inl (upd D_from D_nodes.toNatClampNeg p2))), (a_D_upTo, .inl (cI, 12000, .inl (upd D_upTo D_nodes.toNatClampNeg p3))), (a_D_firsts, .inl (cI, 12000, .inl D_firsts)), (a_D_parts, .inl (cI, 12000, .inl D_parts)), (a_D_variables, .inl (cI, 12000, .inl (upd D_variables D_nodes.toNatClampNeg (-1 : Int32))))]) hx hb hK.1 hP hD hS 7 0 rfl rfl h5 d_Ref_lay_49 rfl (fun H locs hP hD hS => ?_)
  refine lv_aload_n hx hb d_Ref_lay_50 rfl (lv_at hl 0 rfl) ?_
  refine va_get (D := (dC, dI)) (ci := 6) (v := .ref a_D_firsts) (C := "SyntaxTreesModel") (T := F_Ref) (N := 28) hx hb hts (fun w h => List.mem_cons_of_mem _ (in_Ref w h)) hown hK.1 hP 0 rfl rfl 22 (by decide +kernel) (hts _ (List.mem_cons_of_mem _ m_529)) (fun _ h9 => h9) rfl d_Ref_lay_51 ?_
  refine lv_aload_n hx hb d_Ref_lay_54 rfl (lv_at hl 0 rfl) ?_
  refine va_get (D := (dC, dI)) (ci := 6) (v := .int D_nodes) (C := "SyntaxTreesModel") (T := F_Ref) (N := 28) hx hb hts (fun w h => List.mem_cons_of_mem _ (in_Ref w h)) hown hK.1 hP 0 rfl rfl 17 (by decide +kernel) (hts _ (List.mem_cons_of_mem _ m_524)) (fun _ h9 => h9) rfl d_Ref_lay_55 ?_
  refine lv_iconst (v := (-1 : Int32)) hx hb d_Ref_lay_58 (by decide +kernel) ?_
  obtain ⟨h6, hf⟩ := x_gd hf
  refine x_iast (w1 := [(a_D, .inr (6, [.int D_symbols, .ref a_D_types, .ref a_D_sortOf, .int D_sorts, .int D_rules, .int D_isOpen, .ref a_D_makes, .ref a_D_starts, .ref a_D_told, .int D_all, .ref a_D_row, .int D_length, .ref a_D_many, .ref a_D_ways, .ref a_D_base, .int D_isFound, .int D_foundLimit, .int D_nodes, .ref a_D_ruleOf, .ref a_D_sortAt, .ref a_D_from, .ref a_D_upTo, .ref a_D_firsts, .ref a_D_parts, .ref a_D_variables, .ref a_D_order, .ref a_D_pile, .ref a_D_next])), (a_D_ruleOf, .inl (cI, 12000, .inl (upd D_ruleOf D_nodes.toNatClampNeg (-1 : Int32)))), (a_D_sortAt, .inl (cI, 12000, .inl (upd D_sortAt D_nodes.toNatClampNeg p1))), (a_D_from, .inl (cI, 12000, .inl (upd D_from D_nodes.toNatClampNeg p2))), (a_D_upTo, .inl (cI, 12000, .inl (upd D_upTo D_nodes.toNatClampNeg p3))), (a_D_firsts, .inl (cI, 12000, .inl (upd D_firsts D_nodes.toNatClampNeg (-1 : Int32)))), (a_D_parts, .inl (cI, 12000, .inl D_parts)), (a_D_variables, .inl (cI, 12000, .inl (upd D_variables D_nodes.toNatClampNeg (-1 : Int32))))]) hx hb hK.1 hP hD hS 5 0 rfl rfl h6 d_Ref_lay_59 rfl (fun H locs hP hD hS => ?_)
  refine lv_aload_n hx hb d_Ref_lay_60 rfl (lv_at hl 0 rfl) ?_
  refine va_get (D := (dC, dI)) (ci := 6) (v := .ref a_D_parts) (C := "SyntaxTreesModel") (T := F_Ref) (N := 28) hx hb hts (fun w h => List.mem_cons_of_mem _ (in_Ref w h)) hown hK.1 hP 0 rfl rfl 23 (by decide +kernel) (hts _ (List.mem_cons_of_mem _ m_530)) (fun _ h9 => h9) rfl d_Ref_lay_61 ?_
  refine lv_aload_n hx hb d_Ref_lay_64 rfl (lv_at hl 0 rfl) ?_
  refine va_get (D := (dC, dI)) (ci := 6) (v := .int D_nodes) (C := "SyntaxTreesModel") (T := F_Ref) (N := 28) hx hb hts (fun w h => List.mem_cons_of_mem _ (in_Ref w h)) hown hK.1 hP 0 rfl rfl 17 (by decide +kernel) (hts _ (List.mem_cons_of_mem _ m_524)) (fun _ h9 => h9) rfl d_Ref_lay_65 ?_
  refine lv_iconst (v := (0 : Int32)) hx hb d_Ref_lay_68 (by decide +kernel) ?_
  obtain ⟨h7, hf⟩ := x_gd hf
  refine x_iast (w1 := [(a_D, .inr (6, [.int D_symbols, .ref a_D_types, .ref a_D_sortOf, .int D_sorts, .int D_rules, .int D_isOpen, .ref a_D_makes, .ref a_D_starts, .ref a_D_told, .int D_all, .ref a_D_row, .int D_length, .ref a_D_many, .ref a_D_ways, .ref a_D_base, .int D_isFound, .int D_foundLimit, .int D_nodes, .ref a_D_ruleOf, .ref a_D_sortAt, .ref a_D_from, .ref a_D_upTo, .ref a_D_firsts, .ref a_D_parts, .ref a_D_variables, .ref a_D_order, .ref a_D_pile, .ref a_D_next])), (a_D_ruleOf, .inl (cI, 12000, .inl (upd D_ruleOf D_nodes.toNatClampNeg (-1 : Int32)))), (a_D_sortAt, .inl (cI, 12000, .inl (upd D_sortAt D_nodes.toNatClampNeg p1))), (a_D_from, .inl (cI, 12000, .inl (upd D_from D_nodes.toNatClampNeg p2))), (a_D_upTo, .inl (cI, 12000, .inl (upd D_upTo D_nodes.toNatClampNeg p3))), (a_D_firsts, .inl (cI, 12000, .inl (upd D_firsts D_nodes.toNatClampNeg (-1 : Int32)))), (a_D_parts, .inl (cI, 12000, .inl (upd D_parts D_nodes.toNatClampNeg (0 : Int32)))), (a_D_variables, .inl (cI, 12000, .inl (upd D_variables D_nodes.toNatClampNeg (-1 : Int32))))]) hx hb hK.1 hP hD hS 6 0 rfl rfl h7 d_Ref_lay_69 rfl (fun H locs hP hD hS => ?_)
  refine lv_aload_n hx hb d_Ref_lay_70 rfl (lv_at hl 0 rfl) ?_
  refine lv_dup hx hb d_Ref_lay_71 rfl ?_
  refine va_get (D := (dC, dI)) (ci := 6) (v := .int D_nodes) (C := "SyntaxTreesModel") (T := F_Ref) (N := 28) hx hb hts (fun w h => List.mem_cons_of_mem _ (in_Ref w h)) hown hK.1 hP 0 rfl rfl 17 (by decide +kernel) (hts _ (List.mem_cons_of_mem _ m_524)) (fun _ h9 => h9) rfl d_Ref_lay_72 ?_
  refine lv_iconst (v := (1 : Int32)) hx hb d_Ref_lay_75 (by decide +kernel) ?_
  refine lv_iadd hx hb d_Ref_lay_76 ?_
  refine x_put (D := (dC, dI)) (ci := 6) (v := .int (D_nodes + (1 : Int32))) (ty := .int) (C := "SyntaxTreesModel") (T := F_Ref) (N := 28) (w1 := [(a_D, .inr (6, [.int D_symbols, .ref a_D_types, .ref a_D_sortOf, .int D_sorts, .int D_rules, .int D_isOpen, .ref a_D_makes, .ref a_D_starts, .ref a_D_told, .int D_all, .ref a_D_row, .int D_length, .ref a_D_many, .ref a_D_ways, .ref a_D_base, .int D_isFound, .int D_foundLimit, .int (D_nodes + (1 : Int32)), .ref a_D_ruleOf, .ref a_D_sortAt, .ref a_D_from, .ref a_D_upTo, .ref a_D_firsts, .ref a_D_parts, .ref a_D_variables, .ref a_D_order, .ref a_D_pile, .ref a_D_next])), (a_D_ruleOf, .inl (cI, 12000, .inl (upd D_ruleOf D_nodes.toNatClampNeg (-1 : Int32)))), (a_D_sortAt, .inl (cI, 12000, .inl (upd D_sortAt D_nodes.toNatClampNeg p1))), (a_D_from, .inl (cI, 12000, .inl (upd D_from D_nodes.toNatClampNeg p2))), (a_D_upTo, .inl (cI, 12000, .inl (upd D_upTo D_nodes.toNatClampNeg p3))), (a_D_firsts, .inl (cI, 12000, .inl (upd D_firsts D_nodes.toNatClampNeg (-1 : Int32)))), (a_D_parts, .inl (cI, 12000, .inl (upd D_parts D_nodes.toNatClampNeg (0 : Int32)))), (a_D_variables, .inl (cI, 12000, .inl (upd D_variables D_nodes.toNatClampNeg (-1 : Int32))))]) hx hb hts (fun w h => List.mem_cons_of_mem _ (in_Ref w h)) t_Ref t_Ref_ok n_Ref hown hK.1 hP hD hS 0 rfl rfl 17 (by decide +kernel) (hts _ (List.mem_cons_of_mem _ m_524)) (fun _ h9 => h9) rfl (by decide +kernel) rfl rfl (Nat.le_of_ble_eq_true rfl) d_Ref_lay_77 rfl (fun H locs hP hD hS => ?_)
  cases hf
  subst hQ
  exact W.vret hx hb hr (fun t ht _ => ⟨⟨(), rfl, trivial, by rw [ht]; exact hP, hD⟩, hS.F ht⟩) hS.2.2 d_Ref_lay_80
set_option maxHeartbeats 4000000 in
set_option maxRecDepth 100000 in
theorem w_Ref_ends_L72 {p : Program} {l : Launch} {e : Env} {s : State} {m : MethodId} {args : Array Value} {below : List Frame} {meth : Method} {c : Code} {dC : Nat → ClassId} {dI : Nat → Nat → Nat} {cI cJ cB : ClassId} {a_D a_D_types a_D_sortOf a_D_makes a_D_starts a_D_told a_D_row a_D_many a_D_ways a_D_base a_D_ruleOf a_D_sortAt a_D_from a_D_upTo a_D_firsts a_D_parts a_D_variables a_D_order a_D_pile a_D_next : Nat} {H : Heap} {locs : List Loc} {Q : State → Prop} (n : Nat) (v11 : Int32) (v8 : Int32) (v7 : Int32) (v5 : Int64) (v1 : Int32) (v3 : Int32) (v4 : Int32) (D_symbols : Int32) (D_sorts : Int32) (D_rules : Int32) (D_isOpen : Int32) (D_all : Int32) (D_length : Int32) (D_isFound : Int32) (D_foundLimit : Int32) (D_nodes : Int32) (D_types : Nat → Int32) (D_sortOf : Nat → Int32) (D_starts : Nat → Int32) (D_told : Nat → Int32) (D_row : Nat → Int32) (D_many : Nat → Int32) (hx : p.tables.exec = Jvm.exec) (hb : c.code = b_Ref_ends) (hml : c.maxLocals = 14) (hown : s.vm.findClass "SyntaxTreesModel" = some m.cls) (hts : ∀ w ∈ w_Ref_ends, w.before args s = true) (hK : x_K (dC, dI) [(cI, .int), (cJ, .long), (cB, .byte)] s) (hP : va_P (dC, dI) vwCl [(a_D, .inr (6, [.int D_symbols, .ref a_D_types, .ref a_D_sortOf, .int D_sorts, .int D_rules, .int D_isOpen, .ref a_D_makes, .ref a_D_starts, .ref a_D_told, .int D_all, .ref a_D_row, .int D_length, .ref a_D_many, .ref a_D_ways, .ref a_D_base, .int D_isFound, .int D_foundLimit, .int D_nodes, .ref a_D_ruleOf, .ref a_D_sortAt, .ref a_D_from, .ref a_D_upTo, .ref a_D_firsts, .ref a_D_parts, .ref a_D_variables, .ref a_D_order, .ref a_D_pile, .ref a_D_next])), (a_D_types, .inl (cI, 1000, .inl D_types)), (a_D_sortOf, .inl (cI, 1000, .inl D_sortOf)), (a_D_starts, .inl (cI, 1501, .inl D_starts)), (a_D_told, .inl (cI, 30000, .inl D_told)), (a_D_row, .inl (cI, 59, .inl D_row)), (a_D_many, .inl (cB, 360000, .inl D_many))] H) : ∀ (k : Nat) (v12 : Int32) (v9 : Int64) (o : Int32 × Int64) (ls : Array Slot), f_Ref_ends_L72 n v11 v8 v4 D_types D_sortOf D_row D_many k v12 v9 = some o → lv_has ls 14 [(12, .int v12), (11, .int v11), (9, .long v9), (8, .int v8), (7, .int v7), (5, .long v5), (0, .ref a_D), (1, .int v1), (3, .int v3), (4, .int v4)] → (∀ ls : Array Slot, lv_has ls 14 [(12, .int o.1), (11, .int v11), (9, .long o.2), (8, .int v8), (7, .int v7), (5, .long v5), (0, .ref a_D), (1, .int v1), (3, .int v3), (4, .int v4)] → W p l e ({ frames := 1, cells := 0, slots := 0, locals := 23 }) s m args below meth c H locs 0 0 Q (F0 m 164 ls [])) → W p l e ({ frames := 1, cells := 0, slots := 0, locals := 23 }) s m args below meth c H locs 0 0 Q (F0 m 72 ls []) := by
  intro k
  induction k with
  | zero =>
    intro v12 v9 o ls hf
    exact absurd hf (by simp [f_Ref_ends_L72])
  | succ k ih =>
    intro v12 v9 o ls hf hl kk
    rw [f_Ref_ends_L72] at hf
    refine lv_iload hx hb d_Ref_ends_72 (lv_at hl 0 rfl) ?_
    refine lv_iload hx hb d_Ref_ends_74 (lv_at hl 9 rfl) ?_
    refine lv_icmp_gt (tgt := 164) hx hb d_Ref_ends_76 (by decide +kernel) (fun c1 => ?_) (fun c1 => ?_)
    · have hf := x_pos c1 hf
      cases hf
      exact kk ls (lv_sub hl [0, 1, 2, 3, 4, 5, 6, 7, 8, 9] rfl)
    · have hf := x_neg c1 hf
      refine lv_aload_n hx hb d_Ref_ends_79 rfl (lv_at hl 6 rfl) ?_
      refine va_get (D := (dC, dI)) (ci := 6) (v := .ref a_D_types) (C := "SyntaxTreesModel") (T := F_Ref) (N := 28) hx hb hts (fun w h => List.mem_cons_of_mem _ (in_Ref w h)) hown hK.1 hP 0 rfl rfl 1 (by decide +kernel) (hts _ (List.mem_cons_of_mem _ m_508)) (fun _ h9 => h9) rfl d_Ref_ends_80 ?_
      refine lv_iload hx hb d_Ref_ends_83 (lv_at hl 3 rfl) ?_
      obtain ⟨h2, hf⟩ := x_gd hf
      refine va_iald hx hb hK.1 hP 1 0 rfl rfl h2 d_Ref_ends_85 ?_
      refine lv_iconst (v := (-1 : Int32)) hx hb d_Ref_ends_86 (by decide +kernel) ?_
      refine lv_icmp_ne (tgt := 119) hx hb d_Ref_ends_87 (by decide +kernel) (fun c3 => ?_) (fun c3 => ?_)
      · have hf := x_neg c3 hf
        refine lv_aload_n hx hb d_Ref_ends_119 rfl (lv_at hl 6 rfl) ?_
        refine lv_iload hx hb d_Ref_ends_120 (lv_at hl 3 rfl) ?_
        refine lv_iload hx hb d_Ref_ends_122 (lv_at hl 1 rfl) ?_
        refine lv_iload hx hb d_Ref_ends_124 (lv_at hl 0 rfl) ?_
        obtain ⟨x4, hx4, hf⟩ := x_bd hf
        refine x_rdiV (As := [.int v8, .int v11, .int v12]) (rest := []) (wc := [(a_D, .inr (6, [.int D_symbols, .ref a_D_types, .ref a_D_sortOf, .int D_sorts, .int D_rules, .int D_isOpen, .ref a_D_makes, .ref a_D_starts, .ref a_D_told, .int D_all, .ref a_D_row, .int D_length, .ref a_D_many, .ref a_D_ways, .ref a_D_base, .int D_isFound, .int D_foundLimit, .int D_nodes, .ref a_D_ruleOf, .ref a_D_sortAt, .ref a_D_from, .ref a_D_upTo, .ref a_D_firsts, .ref a_D_parts, .ref a_D_variables, .ref a_D_order, .ref a_D_pile, .ref a_D_next])), (a_D_types, .inl (cI, 1000, .inl D_types)), (a_D_sortOf, .inl (cI, 1000, .inl D_sortOf)), (a_D_many, .inl (cB, 360000, .inl D_many))]) ⟨hx, hb, hml, hown, hts⟩ (c_Ref_treesOf l dC dI cI cJ cB a_D a_D_types a_D_sortOf a_D_makes a_D_starts a_D_told a_D_row a_D_many a_D_ways a_D_base a_D_ruleOf a_D_sortAt a_D_from a_D_upTo a_D_firsts a_D_parts a_D_variables a_D_order a_D_pile a_D_next D_symbols D_sorts D_rules D_isOpen D_all D_length D_isFound D_foundLimit D_nodes D_types D_sortOf D_many v8 v11 v12 n x4 hx4) (cwV 3 hts (x_gV m_620 m_621 m_35 m_48 m_622) rfl rfl rfl hd_Ref_treesOf ⟨Nat.le_of_ble_eq_true rfl, Nat.le_of_ble_eq_true rfl⟩) hK hP [0, 1, 2, 6] rfl (ci := 6) (q0 := 0) rfl rfl rfl rfl hl.1 rfl (Nat.le_of_ble_eq_true rfl) d_Ref_ends_126 ⟨Nat.le_of_ble_eq_true rfl, Nat.le_of_ble_eq_true rfl⟩ ?_
        refine lv_if_le (tgt := 136) hx hb d_Ref_ends_129 (by decide +kernel) (fun c5 => ?_) (fun c5 => ?_)
        · have hf := x_pos c5 hf
          refine lv_iconst (v := (0 : Int32)) hx hb d_Ref_ends_136 (by decide +kernel) ?_
          refine lv_istore (lv' := [(13, .int (0 : Int32)), (12, .int v12), (11, .int v11), (9, .long v9), (8, .int v8), (7, .int v7), (5, .long v5), (0, .ref a_D), (1, .int v1), (3, .int v3), (4, .int v4)]) hx hb d_Ref_ends_137 hl (by decide +kernel) rfl (fun ls hl => ?_)
          refine lv_iload hx hb d_Ref_ends_139 (lv_at hl 0 rfl) ?_
          refine lv_if_eq (tgt := 154) hx hb d_Ref_ends_141 (by decide +kernel) (fun c6 => ?_) (fun c6 => ?_)
          · have hf := x_pos c6 hf
            refine lv_lload hx hb d_Ref_ends_154 (lv_at hl 3 rfl) ?_
            refine lv_lstore (lv' := [(9, .long v9), (13, .int (0 : Int32)), (12, .int v12), (11, .int v11), (8, .int v8), (7, .int v7), (5, .long v5), (0, .ref a_D), (1, .int v1), (3, .int v3), (4, .int v4)]) hx hb d_Ref_ends_156 hl (by decide +kernel) rfl (fun ls hl => ?_)
            refine lv_iinc (v := (v12 + (1 : Int32))) (lv' := [(12, .int (v12 + (1 : Int32))), (9, .long v9), (13, .int (0 : Int32)), (11, .int v11), (8, .int v8), (7, .int v7), (5, .long v5), (0, .ref a_D), (1, .int v1), (3, .int v3), (4, .int v4)]) hx hb d_Ref_ends_158 hl (k := 2) rfl rfl (by decide +kernel) rfl (fun ls hl => ?_)
            refine lv_goto (tgt := 72) hx hb d_Ref_ends_161 (by decide +kernel) ?_
            exact ih (v12 + (1 : Int32)) v9 o ls hf (lv_sub hl [0, 3, 1, 4, 5, 6, 7, 8, 9, 10] rfl) kk
          · have hf := x_neg c6 hf
            refine lv_lload hx hb d_Ref_ends_144 (lv_at hl 3 rfl) ?_
            refine lv_lconst (v := (1 : Int64)) hx hb d_Ref_ends_146 (by decide +kernel) ?_
            refine lv_iload hx hb d_Ref_ends_147 (lv_at hl 1 rfl) ?_
            refine lv_lshl hx hb d_Ref_ends_149 rfl ?_
            refine lv_lor hx hb d_Ref_ends_150 ?_
            refine lv_goto (tgt := 156) hx hb d_Ref_ends_151 (by decide +kernel) ?_
            refine lv_lstore (lv' := [(9, .long (v9 ||| ((1 : Int64) <<< (v12.toInt64 &&& 63)))), (13, .int (0 : Int32)), (12, .int v12), (11, .int v11), (8, .int v8), (7, .int v7), (5, .long v5), (0, .ref a_D), (1, .int v1), (3, .int v3), (4, .int v4)]) hx hb d_Ref_ends_156 hl (by decide +kernel) rfl (fun ls hl => ?_)
            refine lv_iinc (v := (v12 + (1 : Int32))) (lv' := [(12, .int (v12 + (1 : Int32))), (9, .long (v9 ||| ((1 : Int64) <<< (v12.toInt64 &&& 63)))), (13, .int (0 : Int32)), (11, .int v11), (8, .int v8), (7, .int v7), (5, .long v5), (0, .ref a_D), (1, .int v1), (3, .int v3), (4, .int v4)]) hx hb d_Ref_ends_158 hl (k := 2) rfl rfl (by decide +kernel) rfl (fun ls hl => ?_)
            refine lv_goto (tgt := 72) hx hb d_Ref_ends_161 (by decide +kernel) ?_
            exact ih (v12 + (1 : Int32)) (v9 ||| ((1 : Int64) <<< (v12.toInt64 &&& 63))) o ls hf (lv_sub hl [0, 3, 1, 4, 5, 6, 7, 8, 9, 10] rfl) kk
        · have hf := x_neg c5 hf
          refine lv_iconst (v := (1 : Int32)) hx hb d_Ref_ends_132 (by decide +kernel) ?_
          refine lv_goto (tgt := 137) hx hb d_Ref_ends_133 (by decide +kernel) ?_
          refine lv_istore (lv' := [(13, .int (1 : Int32)), (12, .int v12), (11, .int v11), (9, .long v9), (8, .int v8), (7, .int v7), (5, .long v5), (0, .ref a_D), (1, .int v1), (3, .int v3), (4, .int v4)]) hx hb d_Ref_ends_137 hl (by decide +kernel) rfl (fun ls hl => ?_)
          refine lv_iload hx hb d_Ref_ends_139 (lv_at hl 0 rfl) ?_
          refine lv_if_eq (tgt := 154) hx hb d_Ref_ends_141 (by decide +kernel) (fun c7 => ?_) (fun c7 => ?_)
          · have hf := x_pos c7 hf
            refine lv_lload hx hb d_Ref_ends_154 (lv_at hl 3 rfl) ?_
            refine lv_lstore (lv' := [(9, .long v9), (13, .int (1 : Int32)), (12, .int v12), (11, .int v11), (8, .int v8), (7, .int v7), (5, .long v5), (0, .ref a_D), (1, .int v1), (3, .int v3), (4, .int v4)]) hx hb d_Ref_ends_156 hl (by decide +kernel) rfl (fun ls hl => ?_)
            refine lv_iinc (v := (v12 + (1 : Int32))) (lv' := [(12, .int (v12 + (1 : Int32))), (9, .long v9), (13, .int (1 : Int32)), (11, .int v11), (8, .int v8), (7, .int v7), (5, .long v5), (0, .ref a_D), (1, .int v1), (3, .int v3), (4, .int v4)]) hx hb d_Ref_ends_158 hl (k := 2) rfl rfl (by decide +kernel) rfl (fun ls hl => ?_)
            refine lv_goto (tgt := 72) hx hb d_Ref_ends_161 (by decide +kernel) ?_
            exact ih (v12 + (1 : Int32)) v9 o ls hf (lv_sub hl [0, 3, 1, 4, 5, 6, 7, 8, 9, 10] rfl) kk
          · have hf := x_neg c7 hf
            refine lv_lload hx hb d_Ref_ends_144 (lv_at hl 3 rfl) ?_
            refine lv_lconst (v := (1 : Int64)) hx hb d_Ref_ends_146 (by decide +kernel) ?_
            refine lv_iload hx hb d_Ref_ends_147 (lv_at hl 1 rfl) ?_
            refine lv_lshl hx hb d_Ref_ends_149 rfl ?_
            refine lv_lor hx hb d_Ref_ends_150 ?_
            refine lv_goto (tgt := 156) hx hb d_Ref_ends_151 (by decide +kernel) ?_
            refine lv_lstore (lv' := [(9, .long (v9 ||| ((1 : Int64) <<< (v12.toInt64 &&& 63)))), (13, .int (1 : Int32)), (12, .int v12), (11, .int v11), (8, .int v8), (7, .int v7), (5, .long v5), (0, .ref a_D), (1, .int v1), (3, .int v3), (4, .int v4)]) hx hb d_Ref_ends_156 hl (by decide +kernel) rfl (fun ls hl => ?_)
            refine lv_iinc (v := (v12 + (1 : Int32))) (lv' := [(12, .int (v12 + (1 : Int32))), (9, .long (v9 ||| ((1 : Int64) <<< (v12.toInt64 &&& 63)))), (13, .int (1 : Int32)), (11, .int v11), (8, .int v8), (7, .int v7), (5, .long v5), (0, .ref a_D), (1, .int v1), (3, .int v3), (4, .int v4)]) hx hb d_Ref_ends_158 hl (k := 2) rfl rfl (by decide +kernel) rfl (fun ls hl => ?_)
            refine lv_goto (tgt := 72) hx hb d_Ref_ends_161 (by decide +kernel) ?_
            exact ih (v12 + (1 : Int32)) (v9 ||| ((1 : Int64) <<< (v12.toInt64 &&& 63))) o ls hf (lv_sub hl [0, 3, 1, 4, 5, 6, 7, 8, 9, 10] rfl) kk
      · have hf := x_pos c3 hf
        refine lv_iload hx hb d_Ref_ends_90 (lv_at hl 0 rfl) ?_
        refine lv_iload hx hb d_Ref_ends_92 (lv_at hl 1 rfl) ?_
        refine lv_iconst (v := (1 : Int32)) hx hb d_Ref_ends_94 (by decide +kernel) ?_
        refine lv_iadd hx hb d_Ref_ends_95 ?_
        refine lv_icmp_ne (tgt := 115) hx hb d_Ref_ends_96 (by decide +kernel) (fun c8 => ?_) (fun c8 => ?_)
        · have hf := x_neg c8 hf
          refine lv_iconst (v := (0 : Int32)) hx hb d_Ref_ends_115 (by decide +kernel) ?_
          refine lv_goto (tgt := 137) hx hb d_Ref_ends_116 (by decide +kernel) ?_
          refine lv_istore (lv' := [(13, .int (0 : Int32)), (12, .int v12), (11, .int v11), (9, .long v9), (8, .int v8), (7, .int v7), (5, .long v5), (0, .ref a_D), (1, .int v1), (3, .int v3), (4, .int v4)]) hx hb d_Ref_ends_137 hl (by decide +kernel) rfl (fun ls hl => ?_)
          refine lv_iload hx hb d_Ref_ends_139 (lv_at hl 0 rfl) ?_
          refine lv_if_eq (tgt := 154) hx hb d_Ref_ends_141 (by decide +kernel) (fun c9 => ?_) (fun c9 => ?_)
          · have hf := x_pos c9 hf
            refine lv_lload hx hb d_Ref_ends_154 (lv_at hl 3 rfl) ?_
            refine lv_lstore (lv' := [(9, .long v9), (13, .int (0 : Int32)), (12, .int v12), (11, .int v11), (8, .int v8), (7, .int v7), (5, .long v5), (0, .ref a_D), (1, .int v1), (3, .int v3), (4, .int v4)]) hx hb d_Ref_ends_156 hl (by decide +kernel) rfl (fun ls hl => ?_)
            refine lv_iinc (v := (v12 + (1 : Int32))) (lv' := [(12, .int (v12 + (1 : Int32))), (9, .long v9), (13, .int (0 : Int32)), (11, .int v11), (8, .int v8), (7, .int v7), (5, .long v5), (0, .ref a_D), (1, .int v1), (3, .int v3), (4, .int v4)]) hx hb d_Ref_ends_158 hl (k := 2) rfl rfl (by decide +kernel) rfl (fun ls hl => ?_)
            refine lv_goto (tgt := 72) hx hb d_Ref_ends_161 (by decide +kernel) ?_
            exact ih (v12 + (1 : Int32)) v9 o ls hf (lv_sub hl [0, 3, 1, 4, 5, 6, 7, 8, 9, 10] rfl) kk
          · have hf := x_neg c9 hf
            refine lv_lload hx hb d_Ref_ends_144 (lv_at hl 3 rfl) ?_
            refine lv_lconst (v := (1 : Int64)) hx hb d_Ref_ends_146 (by decide +kernel) ?_
            refine lv_iload hx hb d_Ref_ends_147 (lv_at hl 1 rfl) ?_
            refine lv_lshl hx hb d_Ref_ends_149 rfl ?_
            refine lv_lor hx hb d_Ref_ends_150 ?_
            refine lv_goto (tgt := 156) hx hb d_Ref_ends_151 (by decide +kernel) ?_
            refine lv_lstore (lv' := [(9, .long (v9 ||| ((1 : Int64) <<< (v12.toInt64 &&& 63)))), (13, .int (0 : Int32)), (12, .int v12), (11, .int v11), (8, .int v8), (7, .int v7), (5, .long v5), (0, .ref a_D), (1, .int v1), (3, .int v3), (4, .int v4)]) hx hb d_Ref_ends_156 hl (by decide +kernel) rfl (fun ls hl => ?_)
            refine lv_iinc (v := (v12 + (1 : Int32))) (lv' := [(12, .int (v12 + (1 : Int32))), (9, .long (v9 ||| ((1 : Int64) <<< (v12.toInt64 &&& 63)))), (13, .int (0 : Int32)), (11, .int v11), (8, .int v8), (7, .int v7), (5, .long v5), (0, .ref a_D), (1, .int v1), (3, .int v3), (4, .int v4)]) hx hb d_Ref_ends_158 hl (k := 2) rfl rfl (by decide +kernel) rfl (fun ls hl => ?_)
            refine lv_goto (tgt := 72) hx hb d_Ref_ends_161 (by decide +kernel) ?_
            exact ih (v12 + (1 : Int32)) (v9 ||| ((1 : Int64) <<< (v12.toInt64 &&& 63))) o ls hf (lv_sub hl [0, 3, 1, 4, 5, 6, 7, 8, 9, 10] rfl) kk
        · have hf := x_pos c8 hf
          refine lv_aload_n hx hb d_Ref_ends_99 rfl (lv_at hl 6 rfl) ?_
          refine va_get (D := (dC, dI)) (ci := 6) (v := .ref a_D_row) (C := "SyntaxTreesModel") (T := F_Ref) (N := 28) hx hb hts (fun w h => List.mem_cons_of_mem _ (in_Ref w h)) hown hK.1 hP 0 rfl rfl 10 (by decide +kernel) (hts _ (List.mem_cons_of_mem _ m_517)) (fun _ h9 => h9) rfl d_Ref_ends_100 ?_
          refine lv_iload hx hb d_Ref_ends_103 (lv_at hl 1 rfl) ?_
          obtain ⟨h10, hf⟩ := x_gd hf
          refine va_iald hx hb hK.1 hP 5 0 rfl rfl h10 d_Ref_ends_105 ?_
          refine lv_iload hx hb d_Ref_ends_106 (lv_at hl 3 rfl) ?_
          refine lv_icmp_ne (tgt := 115) hx hb d_Ref_ends_108 (by decide +kernel) (fun c11 => ?_) (fun c11 => ?_)
          · have hf := x_neg c11 hf
            refine lv_iconst (v := (0 : Int32)) hx hb d_Ref_ends_115 (by decide +kernel) ?_
            refine lv_goto (tgt := 137) hx hb d_Ref_ends_116 (by decide +kernel) ?_
            refine lv_istore (lv' := [(13, .int (0 : Int32)), (12, .int v12), (11, .int v11), (9, .long v9), (8, .int v8), (7, .int v7), (5, .long v5), (0, .ref a_D), (1, .int v1), (3, .int v3), (4, .int v4)]) hx hb d_Ref_ends_137 hl (by decide +kernel) rfl (fun ls hl => ?_)
            refine lv_iload hx hb d_Ref_ends_139 (lv_at hl 0 rfl) ?_
            refine lv_if_eq (tgt := 154) hx hb d_Ref_ends_141 (by decide +kernel) (fun c12 => ?_) (fun c12 => ?_)
            · have hf := x_pos c12 hf
              refine lv_lload hx hb d_Ref_ends_154 (lv_at hl 3 rfl) ?_
              refine lv_lstore (lv' := [(9, .long v9), (13, .int (0 : Int32)), (12, .int v12), (11, .int v11), (8, .int v8), (7, .int v7), (5, .long v5), (0, .ref a_D), (1, .int v1), (3, .int v3), (4, .int v4)]) hx hb d_Ref_ends_156 hl (by decide +kernel) rfl (fun ls hl => ?_)
              refine lv_iinc (v := (v12 + (1 : Int32))) (lv' := [(12, .int (v12 + (1 : Int32))), (9, .long v9), (13, .int (0 : Int32)), (11, .int v11), (8, .int v8), (7, .int v7), (5, .long v5), (0, .ref a_D), (1, .int v1), (3, .int v3), (4, .int v4)]) hx hb d_Ref_ends_158 hl (k := 2) rfl rfl (by decide +kernel) rfl (fun ls hl => ?_)
              refine lv_goto (tgt := 72) hx hb d_Ref_ends_161 (by decide +kernel) ?_
              exact ih (v12 + (1 : Int32)) v9 o ls hf (lv_sub hl [0, 3, 1, 4, 5, 6, 7, 8, 9, 10] rfl) kk
            · have hf := x_neg c12 hf
              refine lv_lload hx hb d_Ref_ends_144 (lv_at hl 3 rfl) ?_
              refine lv_lconst (v := (1 : Int64)) hx hb d_Ref_ends_146 (by decide +kernel) ?_
              refine lv_iload hx hb d_Ref_ends_147 (lv_at hl 1 rfl) ?_
              refine lv_lshl hx hb d_Ref_ends_149 rfl ?_
              refine lv_lor hx hb d_Ref_ends_150 ?_
              refine lv_goto (tgt := 156) hx hb d_Ref_ends_151 (by decide +kernel) ?_
              refine lv_lstore (lv' := [(9, .long (v9 ||| ((1 : Int64) <<< (v12.toInt64 &&& 63)))), (13, .int (0 : Int32)), (12, .int v12), (11, .int v11), (8, .int v8), (7, .int v7), (5, .long v5), (0, .ref a_D), (1, .int v1), (3, .int v3), (4, .int v4)]) hx hb d_Ref_ends_156 hl (by decide +kernel) rfl (fun ls hl => ?_)
              refine lv_iinc (v := (v12 + (1 : Int32))) (lv' := [(12, .int (v12 + (1 : Int32))), (9, .long (v9 ||| ((1 : Int64) <<< (v12.toInt64 &&& 63)))), (13, .int (0 : Int32)), (11, .int v11), (8, .int v8), (7, .int v7), (5, .long v5), (0, .ref a_D), (1, .int v1), (3, .int v3), (4, .int v4)]) hx hb d_Ref_ends_158 hl (k := 2) rfl rfl (by decide +kernel) rfl (fun ls hl => ?_)
              refine lv_goto (tgt := 72) hx hb d_Ref_ends_161 (by decide +kernel) ?_
              exact ih (v12 + (1 : Int32)) (v9 ||| ((1 : Int64) <<< (v12.toInt64 &&& 63))) o ls hf (lv_sub hl [0, 3, 1, 4, 5, 6, 7, 8, 9, 10] rfl) kk
          · have hf := x_pos c11 hf
            refine lv_iconst (v := (1 : Int32)) hx hb d_Ref_ends_111 (by decide +kernel) ?_
            refine lv_goto (tgt := 137) hx hb d_Ref_ends_112 (by decide +kernel) ?_
            refine lv_istore (lv' := [(13, .int (1 : Int32)), (12, .int v12), (11, .int v11), (9, .long v9), (8, .int v8), (7, .int v7), (5, .long v5), (0, .ref a_D), (1, .int v1), (3, .int v3), (4, .int v4)]) hx hb d_Ref_ends_137 hl (by decide +kernel) rfl (fun ls hl => ?_)
            refine lv_iload hx hb d_Ref_ends_139 (lv_at hl 0 rfl) ?_
            refine lv_if_eq (tgt := 154) hx hb d_Ref_ends_141 (by decide +kernel) (fun c13 => ?_) (fun c13 => ?_)
            · have hf := x_pos c13 hf
              refine lv_lload hx hb d_Ref_ends_154 (lv_at hl 3 rfl) ?_
              refine lv_lstore (lv' := [(9, .long v9), (13, .int (1 : Int32)), (12, .int v12), (11, .int v11), (8, .int v8), (7, .int v7), (5, .long v5), (0, .ref a_D), (1, .int v1), (3, .int v3), (4, .int v4)]) hx hb d_Ref_ends_156 hl (by decide +kernel) rfl (fun ls hl => ?_)
              refine lv_iinc (v := (v12 + (1 : Int32))) (lv' := [(12, .int (v12 + (1 : Int32))), (9, .long v9), (13, .int (1 : Int32)), (11, .int v11), (8, .int v8), (7, .int v7), (5, .long v5), (0, .ref a_D), (1, .int v1), (3, .int v3), (4, .int v4)]) hx hb d_Ref_ends_158 hl (k := 2) rfl rfl (by decide +kernel) rfl (fun ls hl => ?_)
              refine lv_goto (tgt := 72) hx hb d_Ref_ends_161 (by decide +kernel) ?_
              exact ih (v12 + (1 : Int32)) v9 o ls hf (lv_sub hl [0, 3, 1, 4, 5, 6, 7, 8, 9, 10] rfl) kk
            · have hf := x_neg c13 hf
              refine lv_lload hx hb d_Ref_ends_144 (lv_at hl 3 rfl) ?_
              refine lv_lconst (v := (1 : Int64)) hx hb d_Ref_ends_146 (by decide +kernel) ?_
              refine lv_iload hx hb d_Ref_ends_147 (lv_at hl 1 rfl) ?_
              refine lv_lshl hx hb d_Ref_ends_149 rfl ?_
              refine lv_lor hx hb d_Ref_ends_150 ?_
              refine lv_goto (tgt := 156) hx hb d_Ref_ends_151 (by decide +kernel) ?_
              refine lv_lstore (lv' := [(9, .long (v9 ||| ((1 : Int64) <<< (v12.toInt64 &&& 63)))), (13, .int (1 : Int32)), (12, .int v12), (11, .int v11), (8, .int v8), (7, .int v7), (5, .long v5), (0, .ref a_D), (1, .int v1), (3, .int v3), (4, .int v4)]) hx hb d_Ref_ends_156 hl (by decide +kernel) rfl (fun ls hl => ?_)
              refine lv_iinc (v := (v12 + (1 : Int32))) (lv' := [(12, .int (v12 + (1 : Int32))), (9, .long (v9 ||| ((1 : Int64) <<< (v12.toInt64 &&& 63)))), (13, .int (1 : Int32)), (11, .int v11), (8, .int v8), (7, .int v7), (5, .long v5), (0, .ref a_D), (1, .int v1), (3, .int v3), (4, .int v4)]) hx hb d_Ref_ends_158 hl (k := 2) rfl rfl (by decide +kernel) rfl (fun ls hl => ?_)
              refine lv_goto (tgt := 72) hx hb d_Ref_ends_161 (by decide +kernel) ?_
              exact ih (v12 + (1 : Int32)) (v9 ||| ((1 : Int64) <<< (v12.toInt64 &&& 63))) o ls hf (lv_sub hl [0, 3, 1, 4, 5, 6, 7, 8, 9, 10] rfl) kk
set_option maxHeartbeats 4000000 in
set_option maxRecDepth 100000 in
theorem w_Ref_ends_L47 {p : Program} {l : Launch} {e : Env} {s : State} {m : MethodId} {args : Array Value} {below : List Frame} {meth : Method} {c : Code} {dC : Nat → ClassId} {dI : Nat → Nat → Nat} {cI cJ cB : ClassId} {a_D a_D_types a_D_sortOf a_D_makes a_D_starts a_D_told a_D_row a_D_many a_D_ways a_D_base a_D_ruleOf a_D_sortAt a_D_from a_D_upTo a_D_firsts a_D_parts a_D_variables a_D_order a_D_pile a_D_next : Nat} {H : Heap} {locs : List Loc} {Q : State → Prop} (n : Nat) (v8 : Int32) (v7 : Int32) (v5 : Int64) (v1 : Int32) (v3 : Int32) (v4 : Int32) (D_symbols : Int32) (D_sorts : Int32) (D_rules : Int32) (D_isOpen : Int32) (D_all : Int32) (D_length : Int32) (D_isFound : Int32) (D_foundLimit : Int32) (D_nodes : Int32) (D_types : Nat → Int32) (D_sortOf : Nat → Int32) (D_starts : Nat → Int32) (D_told : Nat → Int32) (D_row : Nat → Int32) (D_many : Nat → Int32) (hx : p.tables.exec = Jvm.exec) (hb : c.code = b_Ref_ends) (hml : c.maxLocals = 14) (hown : s.vm.findClass "SyntaxTreesModel" = some m.cls) (hts : ∀ w ∈ w_Ref_ends, w.before args s = true) (hK : x_K (dC, dI) [(cI, .int), (cJ, .long), (cB, .byte)] s) (hP : va_P (dC, dI) vwCl [(a_D, .inr (6, [.int D_symbols, .ref a_D_types, .ref a_D_sortOf, .int D_sorts, .int D_rules, .int D_isOpen, .ref a_D_makes, .ref a_D_starts, .ref a_D_told, .int D_all, .ref a_D_row, .int D_length, .ref a_D_many, .ref a_D_ways, .ref a_D_base, .int D_isFound, .int D_foundLimit, .int D_nodes, .ref a_D_ruleOf, .ref a_D_sortAt, .ref a_D_from, .ref a_D_upTo, .ref a_D_firsts, .ref a_D_parts, .ref a_D_variables, .ref a_D_order, .ref a_D_pile, .ref a_D_next])), (a_D_types, .inl (cI, 1000, .inl D_types)), (a_D_sortOf, .inl (cI, 1000, .inl D_sortOf)), (a_D_starts, .inl (cI, 1501, .inl D_starts)), (a_D_told, .inl (cI, 30000, .inl D_told)), (a_D_row, .inl (cI, 59, .inl D_row)), (a_D_many, .inl (cB, 360000, .inl D_many))] H) : ∀ (k : Nat) (v11 : Int32) (v9 : Int64) (o : Int32 × Int64) (ls : Array Slot), f_Ref_ends_L47 n v8 v5 v4 D_types D_sortOf D_row D_many k v11 v9 = some o → lv_has ls 14 [(11, .int v11), (9, .long v9), (8, .int v8), (7, .int v7), (5, .long v5), (0, .ref a_D), (1, .int v1), (3, .int v3), (4, .int v4)] → (∀ ls : Array Slot, lv_has ls 14 [(11, .int o.1), (9, .long o.2), (8, .int v8), (7, .int v7), (5, .long v5), (0, .ref a_D), (1, .int v1), (3, .int v3), (4, .int v4)] → W p l e ({ frames := 1, cells := 0, slots := 0, locals := 23 }) s m args below meth c H locs 0 0 Q (F0 m 170 ls [])) → W p l e ({ frames := 1, cells := 0, slots := 0, locals := 23 }) s m args below meth c H locs 0 0 Q (F0 m 47 ls []) := by
  intro k
  induction k with
  | zero =>
    intro v11 v9 o ls hf
    exact absurd hf (by simp [f_Ref_ends_L47])
  | succ k ih =>
    intro v11 v9 o ls hf hl kk
    rw [f_Ref_ends_L47] at hf
    refine lv_iload hx hb d_Ref_ends_47 (lv_at hl 0 rfl) ?_
    refine lv_iload hx hb d_Ref_ends_49 (lv_at hl 8 rfl) ?_
    refine lv_icmp_ge (tgt := 170) hx hb d_Ref_ends_51 (by decide +kernel) (fun c1 => ?_) (fun c1 => ?_)
    · have hf := x_pos c1 hf
      cases hf
      exact kk ls (lv_sub hl [0, 1, 2, 3, 4, 5, 6, 7, 8] rfl)
    · have hf := x_neg c1 hf
      refine lv_lload hx hb d_Ref_ends_54 (lv_at hl 4 rfl) ?_
      refine lv_iload hx hb d_Ref_ends_56 (lv_at hl 0 rfl) ?_
      refine lv_lshr hx hb d_Ref_ends_58 rfl ?_
      refine lv_lconst (v := (1 : Int64)) hx hb d_Ref_ends_59 (by decide +kernel) ?_
      refine lv_land hx hb d_Ref_ends_60 ?_
      refine lv_lconst (v := (1 : Int64)) hx hb d_Ref_ends_61 (by decide +kernel) ?_
      refine W.lcmp hx hb d_Ref_ends_62 ?_
      refine lv_if_ne (tgt := 164) hx hb d_Ref_ends_63 (by decide +kernel) (fun c2 => ?_) (fun c2 => ?_)
      · have hf := x_neg c2 hf
        refine lv_iinc (v := (v11 + (1 : Int32))) (lv' := [(11, .int (v11 + (1 : Int32))), (9, .long v9), (8, .int v8), (7, .int v7), (5, .long v5), (0, .ref a_D), (1, .int v1), (3, .int v3), (4, .int v4)]) hx hb d_Ref_ends_164 hl (k := 0) rfl rfl (by decide +kernel) rfl (fun ls hl => ?_)
        refine lv_goto (tgt := 47) hx hb d_Ref_ends_167 (by decide +kernel) ?_
        exact ih (v11 + (1 : Int32)) v9 o ls hf (lv_sub hl [0, 1, 2, 3, 4, 5, 6, 7, 8] rfl) kk
      · have hf := x_pos c2 hf
        refine lv_iload hx hb d_Ref_ends_66 (lv_at hl 0 rfl) ?_
        refine lv_iconst (v := (1 : Int32)) hx hb d_Ref_ends_68 (by decide +kernel) ?_
        refine lv_iadd hx hb d_Ref_ends_69 ?_
        refine lv_istore (lv' := [(12, .int (v11 + (1 : Int32))), (11, .int v11), (9, .long v9), (8, .int v8), (7, .int v7), (5, .long v5), (0, .ref a_D), (1, .int v1), (3, .int v3), (4, .int v4)]) hx hb d_Ref_ends_70 hl (by decide +kernel) rfl (fun ls hl => ?_)
        obtain ⟨x3, hx3, hf⟩ := x_bd hf
        refine w_Ref_ends_L72 n v11 v8 v7 v5 v1 v3 v4 D_symbols D_sorts D_rules D_isOpen D_all D_length D_isFound D_foundLimit D_nodes D_types D_sortOf D_starts D_told D_row D_many hx hb hml hown hts hK hP n (v11 + (1 : Int32)) v9 x3 ls hx3 (lv_sub hl [0, 1, 2, 3, 4, 5, 6, 7, 8, 9] rfl) (fun ls hl => ?_)
        refine lv_iinc (v := (v11 + (1 : Int32))) (lv' := [(11, .int (v11 + (1 : Int32))), (12, .int x3.1), (9, .long x3.2), (8, .int v8), (7, .int v7), (5, .long v5), (0, .ref a_D), (1, .int v1), (3, .int v3), (4, .int v4)]) hx hb d_Ref_ends_164 hl (k := 1) rfl rfl (by decide +kernel) rfl (fun ls hl => ?_)
        refine lv_goto (tgt := 47) hx hb d_Ref_ends_167 (by decide +kernel) ?_
        exact ih (v11 + (1 : Int32)) x3.2 o ls hf (lv_sub hl [0, 2, 3, 4, 5, 6, 7, 8, 9] rfl) kk
set_option maxHeartbeats 4000000 in
set_option maxRecDepth 100000 in
theorem w_Ref_ends_L8 {p : Program} {l : Launch} {e : Env} {s : State} {m : MethodId} {args : Array Value} {below : List Frame} {meth : Method} {c : Code} {dC : Nat → ClassId} {dI : Nat → Nat → Nat} {cI cJ cB : ClassId} {a_D a_D_types a_D_sortOf a_D_makes a_D_starts a_D_told a_D_row a_D_many a_D_ways a_D_base a_D_ruleOf a_D_sortAt a_D_from a_D_upTo a_D_firsts a_D_parts a_D_variables a_D_order a_D_pile a_D_next : Nat} {H : Heap} {locs : List Loc} {Q : State → Prop} (n : Nat) (v1 : Int32) (v3 : Int32) (v4 : Int32) (D_symbols : Int32) (D_sorts : Int32) (D_rules : Int32) (D_isOpen : Int32) (D_all : Int32) (D_length : Int32) (D_isFound : Int32) (D_foundLimit : Int32) (D_nodes : Int32) (D_types : Nat → Int32) (D_sortOf : Nat → Int32) (D_starts : Nat → Int32) (D_told : Nat → Int32) (D_row : Nat → Int32) (D_many : Nat → Int32) (hx : p.tables.exec = Jvm.exec) (hb : c.code = b_Ref_ends) (hml : c.maxLocals = 14) (hown : s.vm.findClass "SyntaxTreesModel" = some m.cls) (hts : ∀ w ∈ w_Ref_ends, w.before args s = true) (hK : x_K (dC, dI) [(cI, .int), (cJ, .long), (cB, .byte)] s) (hP : va_P (dC, dI) vwCl [(a_D, .inr (6, [.int D_symbols, .ref a_D_types, .ref a_D_sortOf, .int D_sorts, .int D_rules, .int D_isOpen, .ref a_D_makes, .ref a_D_starts, .ref a_D_told, .int D_all, .ref a_D_row, .int D_length, .ref a_D_many, .ref a_D_ways, .ref a_D_base, .int D_isFound, .int D_foundLimit, .int D_nodes, .ref a_D_ruleOf, .ref a_D_sortAt, .ref a_D_from, .ref a_D_upTo, .ref a_D_firsts, .ref a_D_parts, .ref a_D_variables, .ref a_D_order, .ref a_D_pile, .ref a_D_next])), (a_D_types, .inl (cI, 1000, .inl D_types)), (a_D_sortOf, .inl (cI, 1000, .inl D_sortOf)), (a_D_starts, .inl (cI, 1501, .inl D_starts)), (a_D_told, .inl (cI, 30000, .inl D_told)), (a_D_row, .inl (cI, 59, .inl D_row)), (a_D_many, .inl (cB, 360000, .inl D_many))] H) : ∀ (k : Nat) (v7 : Int32) (v5 : Int64) (o : Int32 × Int64) (ls : Array Slot), f_Ref_ends_L8 n v1 v3 v4 D_types D_sortOf D_starts D_told D_row D_many k v7 v5 = some o → lv_has ls 14 [(7, .int v7), (5, .long v5), (0, .ref a_D), (1, .int v1), (3, .int v3), (4, .int v4)] → (∀ ls : Array Slot, lv_has ls 14 [(7, .int o.1), (5, .long o.2), (0, .ref a_D), (1, .int v1), (3, .int v3), (4, .int v4)] → W p l e ({ frames := 1, cells := 0, slots := 0, locals := 23 }) s m args below meth c H locs 0 0 Q (F0 m 180 ls [])) → W p l e ({ frames := 1, cells := 0, slots := 0, locals := 23 }) s m args below meth c H locs 0 0 Q (F0 m 8 ls []) := by
  intro k
  induction k with
  | zero =>
    intro v7 v5 o ls hf
    exact absurd hf (by simp [f_Ref_ends_L8])
  | succ k ih =>
    intro v7 v5 o ls hf hl kk
    rw [f_Ref_ends_L8] at hf
    refine lv_iload hx hb d_Ref_ends_8 (lv_at hl 0 rfl) ?_
    refine lv_aload_n hx hb d_Ref_ends_10 rfl (lv_at hl 2 rfl) ?_
    refine lv_iload_n hx hb d_Ref_ends_11 rfl (lv_at hl 3 rfl) ?_
    obtain ⟨x1, hx1, hf⟩ := x_bd hf
    refine x_rdiV (As := [.int v1]) (rest := [.int v7]) (wc := [(a_D, .inr (6, [.int D_symbols, .ref a_D_types, .ref a_D_sortOf, .int D_sorts, .int D_rules, .int D_isOpen, .ref a_D_makes, .ref a_D_starts, .ref a_D_told, .int D_all, .ref a_D_row, .int D_length, .ref a_D_many, .ref a_D_ways, .ref a_D_base, .int D_isFound, .int D_foundLimit, .int D_nodes, .ref a_D_ruleOf, .ref a_D_sortAt, .ref a_D_from, .ref a_D_upTo, .ref a_D_firsts, .ref a_D_parts, .ref a_D_variables, .ref a_D_order, .ref a_D_pile, .ref a_D_next])), (a_D_starts, .inl (cI, 1501, .inl D_starts))]) ⟨hx, hb, hml, hown, hts⟩ (c_Ref_lengthOf l dC dI cI cJ cB a_D a_D_types a_D_sortOf a_D_makes a_D_starts a_D_told a_D_row a_D_many a_D_ways a_D_base a_D_ruleOf a_D_sortAt a_D_from a_D_upTo a_D_firsts a_D_parts a_D_variables a_D_order a_D_pile a_D_next D_symbols D_sorts D_rules D_isOpen D_all D_length D_isFound D_foundLimit D_nodes D_starts v1 n x1 hx1) (cwV 1 hts (x_gV m_611 m_612 m_32 m_48 m_613) rfl rfl rfl hd_Ref_lengthOf ⟨Nat.le_of_ble_eq_true rfl, Nat.le_of_ble_eq_true rfl⟩) hK hP [0, 3] rfl (ci := 6) (q0 := 0) rfl rfl rfl rfl hl.1 rfl (Nat.le_of_ble_eq_true rfl) d_Ref_ends_12 ⟨Nat.le_of_ble_eq_true rfl, Nat.le_of_ble_eq_true rfl⟩ ?_
    refine lv_icmp_ge (tgt := 180) hx hb d_Ref_ends_15 (by decide +kernel) (fun c2 => ?_) (fun c2 => ?_)
    · have hf := x_pos c2 hf
      cases hf
      exact kk ls (lv_sub hl [0, 1, 2, 3, 4, 5] rfl)
    · have hf := x_neg c2 hf
      refine lv_lload hx hb d_Ref_ends_18 (lv_at hl 1 rfl) ?_
      refine lv_lconst (v := (0 : Int64)) hx hb d_Ref_ends_20 (by decide +kernel) ?_
      refine W.lcmp hx hb d_Ref_ends_21 ?_
      refine lv_if_eq (tgt := 180) hx hb d_Ref_ends_22 (by decide +kernel) (fun c3 => ?_) (fun c3 => ?_)
      · have hf := x_pos c3 hf
        cases hf
        exact kk ls (lv_sub hl [0, 1, 2, 3, 4, 5] rfl)
      · have hf := x_neg c3 hf
        refine lv_aload_n hx hb d_Ref_ends_25 rfl (lv_at hl 2 rfl) ?_
        refine va_get (D := (dC, dI)) (ci := 6) (v := .ref a_D_told) (C := "SyntaxTreesModel") (T := F_Ref) (N := 28) hx hb hts (fun w h => List.mem_cons_of_mem _ (in_Ref w h)) hown hK.1 hP 0 rfl rfl 8 (by decide +kernel) (hts _ (List.mem_cons_of_mem _ m_515)) (fun _ h9 => h9) rfl d_Ref_ends_26 ?_
        refine lv_aload_n hx hb d_Ref_ends_29 rfl (lv_at hl 2 rfl) ?_
        refine va_get (D := (dC, dI)) (ci := 6) (v := .ref a_D_starts) (C := "SyntaxTreesModel") (T := F_Ref) (N := 28) hx hb hts (fun w h => List.mem_cons_of_mem _ (in_Ref w h)) hown hK.1 hP 0 rfl rfl 7 (by decide +kernel) (hts _ (List.mem_cons_of_mem _ m_514)) (fun _ h9 => h9) rfl d_Ref_ends_30 ?_
        refine lv_iload_n hx hb d_Ref_ends_33 rfl (lv_at hl 3 rfl) ?_
        obtain ⟨h4, hf⟩ := x_gd hf
        refine va_iald hx hb hK.1 hP 3 0 rfl rfl h4 d_Ref_ends_34 ?_
        refine lv_iload hx hb d_Ref_ends_35 (lv_at hl 0 rfl) ?_
        refine lv_iadd hx hb d_Ref_ends_37 ?_
        obtain ⟨h5, hf⟩ := x_gd hf
        refine va_iald hx hb hK.1 hP 4 0 rfl rfl h5 d_Ref_ends_38 ?_
        refine lv_istore (lv' := [(8, .int (D_told ((D_starts v1.toNatClampNeg) + v7).toNatClampNeg)), (7, .int v7), (5, .long v5), (0, .ref a_D), (1, .int v1), (3, .int v3), (4, .int v4)]) hx hb d_Ref_ends_39 hl (by decide +kernel) rfl (fun ls hl => ?_)
        refine lv_lconst (v := (0 : Int64)) hx hb d_Ref_ends_41 (by decide +kernel) ?_
        refine lv_lstore (lv' := [(9, .long (0 : Int64)), (8, .int (D_told ((D_starts v1.toNatClampNeg) + v7).toNatClampNeg)), (7, .int v7), (5, .long v5), (0, .ref a_D), (1, .int v1), (3, .int v3), (4, .int v4)]) hx hb d_Ref_ends_42 hl (by decide +kernel) rfl (fun ls hl => ?_)
        refine lv_iload_n hx hb d_Ref_ends_44 rfl (lv_at hl 6 rfl) ?_
        refine lv_istore (lv' := [(11, .int v3), (9, .long (0 : Int64)), (8, .int (D_told ((D_starts v1.toNatClampNeg) + v7).toNatClampNeg)), (7, .int v7), (5, .long v5), (0, .ref a_D), (1, .int v1), (3, .int v3), (4, .int v4)]) hx hb d_Ref_ends_45 hl (by decide +kernel) rfl (fun ls hl => ?_)
        obtain ⟨x6, hx6, hf⟩ := x_bd hf
        refine w_Ref_ends_L47 n (D_told ((D_starts v1.toNatClampNeg) + v7).toNatClampNeg) v7 v5 v1 v3 v4 D_symbols D_sorts D_rules D_isOpen D_all D_length D_isFound D_foundLimit D_nodes D_types D_sortOf D_starts D_told D_row D_many hx hb hml hown hts hK hP n v3 (0 : Int64) x6 ls hx6 (lv_sub hl [0, 1, 2, 3, 4, 5, 6, 7, 8] rfl) (fun ls hl => ?_)
        refine lv_lload hx hb d_Ref_ends_170 (lv_at hl 1 rfl) ?_
        refine lv_lstore (lv' := [(5, .long x6.2), (11, .int x6.1), (9, .long x6.2), (8, .int (D_told ((D_starts v1.toNatClampNeg) + v7).toNatClampNeg)), (7, .int v7), (0, .ref a_D), (1, .int v1), (3, .int v3), (4, .int v4)]) hx hb d_Ref_ends_172 hl (by decide +kernel) rfl (fun ls hl => ?_)
        refine lv_iinc (v := (v7 + (1 : Int32))) (lv' := [(7, .int (v7 + (1 : Int32))), (5, .long x6.2), (11, .int x6.1), (9, .long x6.2), (8, .int (D_told ((D_starts v1.toNatClampNeg) + v7).toNatClampNeg)), (0, .ref a_D), (1, .int v1), (3, .int v3), (4, .int v4)]) hx hb d_Ref_ends_174 hl (k := 4) rfl rfl (by decide +kernel) rfl (fun ls hl => ?_)
        refine lv_goto (tgt := 8) hx hb d_Ref_ends_177 (by decide +kernel) ?_
        exact ih (v7 + (1 : Int32)) x6.2 o ls hf (lv_sub hl [0, 1, 5, 6, 7, 8] rfl) kk
set_option maxHeartbeats 4000000 in
set_option maxRecDepth 100000 in
theorem c_Ref_ends (l : Launch) (dC : Nat → ClassId) (dI : Nat → Nat → Nat) (cI cJ cB : ClassId) (a_D a_D_types a_D_sortOf a_D_makes a_D_starts a_D_told a_D_row a_D_many a_D_ways a_D_base a_D_ruleOf a_D_sortAt a_D_from a_D_upTo a_D_firsts a_D_parts a_D_variables a_D_order a_D_pile a_D_next : Nat)  (D_symbols : Int32) (D_sorts : Int32) (D_rules : Int32) (D_isOpen : Int32) (D_all : Int32) (D_length : Int32) (D_isFound : Int32) (D_foundLimit : Int32) (D_nodes : Int32) (D_types : Nat → Int32) (D_sortOf : Nat → Int32) (D_starts : Nat → Int32) (D_told : Nat → Int32) (D_row : Nat → Int32) (D_many : Nat → Int32) (p1 : Int32) (p2 : Int32) (p3 : Int32) (p4 : Int32) (n : Nat) (o : Int32) (hf : f_Ref_ends n D_types D_sortOf D_starts D_told D_row D_many p1 p2 p3 p4 = some o) : Met l y_Ref_ends w_Ref_ends ({ frames := 1, cells := 0, slots := 0, locals := 23 }) (va_Pc [.ref a_D, .int p1, .int p2, .int p3, .int p4] (fun U => va_P (dC, dI) vwCl [(a_D, .inr (6, [.int D_symbols, .ref a_D_types, .ref a_D_sortOf, .int D_sorts, .int D_rules, .int D_isOpen, .ref a_D_makes, .ref a_D_starts, .ref a_D_told, .int D_all, .ref a_D_row, .int D_length, .ref a_D_many, .ref a_D_ways, .ref a_D_base, .int D_isFound, .int D_foundLimit, .int D_nodes, .ref a_D_ruleOf, .ref a_D_sortAt, .ref a_D_from, .ref a_D_upTo, .ref a_D_firsts, .ref a_D_parts, .ref a_D_variables, .ref a_D_order, .ref a_D_pile, .ref a_D_next])), (a_D_types, .inl (cI, 1000, .inl D_types)), (a_D_sortOf, .inl (cI, 1000, .inl D_sortOf)), (a_D_starts, .inl (cI, 1501, .inl D_starts)), (a_D_told, .inl (cI, 30000, .inl D_told)), (a_D_row, .inl (cI, 59, .inl D_row)), (a_D_many, .inl (cB, 360000, .inl D_many))] U.heap ∧ x_K (dC, dI) [(cI, .int), (cJ, .long), (cB, .byte)] U)) (QcRead o) 0 0 (fun _ => False) := by
  refine Met.ofW (cc := b_Ref_ends) (maxL := 14) (ret := (some .boolean)) (by decide +kernel) rfl ?_
  intro p e s m args below meth c s₁ B hml hv
  obtain ⟨rfl, hP, hK⟩ := hv
  have hx := B.exec
  have hb := B.bytes
  have hr := B.returns
  have hts := atoms_spec (ws := w_Ref_ends) B.pre
  have hown : s.vm.findClass "SyntaxTreesModel" = some m.cls := findClass_of_methodNamed B.named
  have hlocks := B.notSynchronized
  have hP : va_P (dC, dI) vwCl [(a_D, .inr (6, [.int D_symbols, .ref a_D_types, .ref a_D_sortOf, .int D_sorts, .int D_rules, .int D_isOpen, .ref a_D_makes, .ref a_D_starts, .ref a_D_told, .int D_all, .ref a_D_row, .int D_length, .ref a_D_many, .ref a_D_ways, .ref a_D_base, .int D_isFound, .int D_foundLimit, .int D_nodes, .ref a_D_ruleOf, .ref a_D_sortAt, .ref a_D_from, .ref a_D_upTo, .ref a_D_firsts, .ref a_D_parts, .ref a_D_variables, .ref a_D_order, .ref a_D_pile, .ref a_D_next])), (a_D_types, .inl (cI, 1000, .inl D_types)), (a_D_sortOf, .inl (cI, 1000, .inl D_sortOf)), (a_D_starts, .inl (cI, 1501, .inl D_starts)), (a_D_told, .inl (cI, 30000, .inl D_told)), (a_D_row, .inl (cI, 59, .inl D_row)), (a_D_many, .inl (cB, 360000, .inl D_many))] s.heap := hP
  have hl := lv_entry ([.ref a_D, .int p1, .int p2, .int p3, .int p4]) (n := 14) (Nat.le_of_ble_eq_true rfl)
  rw [lg_entry_eq]
  generalize (lg_sl ([.ref a_D, .int p1, .int p2, .int p3, .int p4]) ++ List.replicate (14 - (lg_sl ([.ref a_D, .int p1, .int p2, .int p3, .int p4])).length) Slot.unset).toArray = ls at hl ⊢
  have hl : lv_has ls 14 [(0, .ref a_D), (1, .int p1), (2, .int p2), (3, .int p3), (4, .int p4)] := hl
  refine x_Q (fun Q hQ => ?_)
  unfold f_Ref_ends at hf
  refine lv_lconst (v := (1 : Int64)) hx hb d_Ref_ends_0 (by decide +kernel) ?_
  refine lv_iload_n hx hb d_Ref_ends_1 rfl (lv_at hl 3 rfl) ?_
  refine lv_lshl hx hb d_Ref_ends_2 rfl ?_
  refine lv_lstore (lv' := [(5, .long ((1 : Int64) <<< (p3.toInt64 &&& 63))), (0, .ref a_D), (1, .int p1), (2, .int p2), (3, .int p3), (4, .int p4)]) hx hb d_Ref_ends_3 hl (by decide +kernel) rfl (fun ls hl => ?_)
  refine lv_iload_n hx hb d_Ref_ends_5 rfl (lv_at hl 3 rfl) ?_
  refine lv_istore (lv' := [(7, .int p2), (5, .long ((1 : Int64) <<< (p3.toInt64 &&& 63))), (0, .ref a_D), (1, .int p1), (2, .int p2), (3, .int p3), (4, .int p4)]) hx hb d_Ref_ends_6 hl (by decide +kernel) rfl (fun ls hl => ?_)
  obtain ⟨x1, hx1, hf⟩ := x_bd hf
  refine w_Ref_ends_L8 n p1 p3 p4 D_symbols D_sorts D_rules D_isOpen D_all D_length D_isFound D_foundLimit D_nodes D_types D_sortOf D_starts D_told D_row D_many hx hb hml hown hts hK hP n p2 ((1 : Int64) <<< (p3.toInt64 &&& 63)) x1 ls hx1 (lv_sub hl [0, 1, 2, 3, 5, 6] rfl) (fun ls hl => ?_)
  refine lv_lload hx hb d_Ref_ends_180 (lv_at hl 1 rfl) ?_
  refine lv_iload hx hb d_Ref_ends_182 (lv_at hl 5 rfl) ?_
  refine lv_lshr hx hb d_Ref_ends_184 rfl ?_
  refine lv_lconst (v := (1 : Int64)) hx hb d_Ref_ends_185 (by decide +kernel) ?_
  refine lv_land hx hb d_Ref_ends_186 ?_
  refine lv_lconst (v := (1 : Int64)) hx hb d_Ref_ends_187 (by decide +kernel) ?_
  refine W.lcmp hx hb d_Ref_ends_188 ?_
  refine lv_if_ne (tgt := 196) hx hb d_Ref_ends_189 (by decide +kernel) (fun c2 => ?_) (fun c2 => ?_)
  · have hf := x_neg c2 hf
    refine lv_iconst (v := (0 : Int32)) hx hb d_Ref_ends_196 (by decide +kernel) ?_
    cases hf
    subst hQ
    exact W.zret hx hb hr rfl (fun t ht _ => ⟨rfl, ht⟩) (fun _ h => absurd h List.not_mem_nil) d_Ref_ends_197
  · have hf := x_pos c2 hf
    refine lv_iconst (v := (1 : Int32)) hx hb d_Ref_ends_192 (by decide +kernel) ?_
    refine lv_goto (tgt := 197) hx hb d_Ref_ends_193 (by decide +kernel) ?_
    cases hf
    subst hQ
    exact W.zret hx hb hr rfl (fun t ht _ => ⟨rfl, ht⟩) (fun _ h => absurd h List.not_mem_nil) d_Ref_ends_197
set_option maxHeartbeats 4000000 in
set_option maxRecDepth 100000 in
theorem w_Ref_tell_L21 {p : Program} {l : Launch} {e : Env} {s : State} {m : MethodId} {args : Array Value} {below : List Frame} {meth : Method} {c : Code} {dC : Nat → ClassId} {dI : Nat → Nat → Nat} {cI cJ cB : ClassId} {a_D a_D_types a_D_sortOf a_D_makes a_D_starts a_D_told a_D_row a_D_many a_D_ways a_D_base a_D_ruleOf a_D_sortAt a_D_from a_D_upTo a_D_firsts a_D_parts a_D_variables a_D_order a_D_pile a_D_next : Nat} {A : Nat → Prop} {Q : State → Prop} (n : Nat)  (D_symbols : Int32) (D_sorts : Int32) (D_rules : Int32) (D_isOpen : Int32) (D_all : Int32) (D_length : Int32) (D_isFound : Int32) (D_foundLimit : Int32) (D_nodes : Int32) (D_firsts : Nat → Int32) (D_parts : Nat → Int32) (hx : p.tables.exec = Jvm.exec) (hb : c.code = b_Ref_tell) (hml : c.maxLocals = 4) (hown : s.vm.findClass "SyntaxTreesModel" = some m.cls) (hts : ∀ w ∈ w_Ref_tell, w.before args s = true) (hK : x_K (dC, dI) [(cI, .int), (cJ, .long), (cB, .byte)] s) (hA : ∀ q, s.heap.size ≤ q → A q) : ∀ (k : Nat) (v2 : Int32) (v1 : Int32) (D_order : Nat → Int32) (D_pile : Nat → Int32) (D_next : Nat → Int32) (o : Int32 × Int32 × (Nat → Int32) × (Nat → Int32) × (Nat → Int32)) (H : Heap) (locs : List Loc) (ls : Array Slot), f_Ref_tell_L21 n D_firsts D_parts k v2 v1 D_order D_pile D_next = some o → va_P (dC, dI) vwCl [(a_D, .inr (6, [.int D_symbols, .ref a_D_types, .ref a_D_sortOf, .int D_sorts, .int D_rules, .int D_isOpen, .ref a_D_makes, .ref a_D_starts, .ref a_D_told, .int D_all, .ref a_D_row, .int D_length, .ref a_D_many, .ref a_D_ways, .ref a_D_base, .int D_isFound, .int D_foundLimit, .int D_nodes, .ref a_D_ruleOf, .ref a_D_sortAt, .ref a_D_from, .ref a_D_upTo, .ref a_D_firsts, .ref a_D_parts, .ref a_D_variables, .ref a_D_order, .ref a_D_pile, .ref a_D_next])), (a_D_firsts, .inl (cI, 12000, .inl D_firsts)), (a_D_parts, .inl (cI, 12000, .inl D_parts)), (a_D_order, .inl (cI, 12000, .inl D_order)), (a_D_pile, .inl (cI, 12000, .inl D_pile)), (a_D_next, .inl (cI, 12000, .inl D_next))] H → va_D A [(a_D, .inr (6, [.int D_symbols, .ref a_D_types, .ref a_D_sortOf, .int D_sorts, .int D_rules, .int D_isOpen, .ref a_D_makes, .ref a_D_starts, .ref a_D_told, .int D_all, .ref a_D_row, .int D_length, .ref a_D_many, .ref a_D_ways, .ref a_D_base, .int D_isFound, .int D_foundLimit, .int D_nodes, .ref a_D_ruleOf, .ref a_D_sortAt, .ref a_D_from, .ref a_D_upTo, .ref a_D_firsts, .ref a_D_parts, .ref a_D_variables, .ref a_D_order, .ref a_D_pile, .ref a_D_next])), (a_D_firsts, .inl (cI, 12000, .inl D_firsts)), (a_D_parts, .inl (cI, 12000, .inl D_parts)), (a_D_order, .inl (cI, 12000, .inl D_order)), (a_D_pile, .inl (cI, 12000, .inl D_pile)), (a_D_next, .inl (cI, 12000, .inl D_next))] → va_S A s.heap H locs → lv_has ls 4 [(2, .int v2), (1, .int v1), (0, .ref a_D)] → (∀ (H : Heap) (locs : List Loc) (ls : Array Slot), va_P (dC, dI) vwCl [(a_D, .inr (6, [.int D_symbols, .ref a_D_types, .ref a_D_sortOf, .int D_sorts, .int D_rules, .int D_isOpen, .ref a_D_makes, .ref a_D_starts, .ref a_D_told, .int D_all, .ref a_D_row, .int D_length, .ref a_D_many, .ref a_D_ways, .ref a_D_base, .int D_isFound, .int D_foundLimit, .int D_nodes, .ref a_D_ruleOf, .ref a_D_sortAt, .ref a_D_from, .ref a_D_upTo, .ref a_D_firsts, .ref a_D_parts, .ref a_D_variables, .ref a_D_order, .ref a_D_pile, .ref a_D_next])), (a_D_firsts, .inl (cI, 12000, .inl D_firsts)), (a_D_parts, .inl (cI, 12000, .inl D_parts)), (a_D_order, .inl (cI, 12000, .inl o.2.2.1)), (a_D_pile, .inl (cI, 12000, .inl o.2.2.2.1)), (a_D_next, .inl (cI, 12000, .inl o.2.2.2.2))] H → va_D A [(a_D, .inr (6, [.int D_symbols, .ref a_D_types, .ref a_D_sortOf, .int D_sorts, .int D_rules, .int D_isOpen, .ref a_D_makes, .ref a_D_starts, .ref a_D_told, .int D_all, .ref a_D_row, .int D_length, .ref a_D_many, .ref a_D_ways, .ref a_D_base, .int D_isFound, .int D_foundLimit, .int D_nodes, .ref a_D_ruleOf, .ref a_D_sortAt, .ref a_D_from, .ref a_D_upTo, .ref a_D_firsts, .ref a_D_parts, .ref a_D_variables, .ref a_D_order, .ref a_D_pile, .ref a_D_next])), (a_D_firsts, .inl (cI, 12000, .inl D_firsts)), (a_D_parts, .inl (cI, 12000, .inl D_parts)), (a_D_order, .inl (cI, 12000, .inl o.2.2.1)), (a_D_pile, .inl (cI, 12000, .inl o.2.2.2.1)), (a_D_next, .inl (cI, 12000, .inl o.2.2.2.2))] → va_S A s.heap H locs → lv_has ls 4 [(2, .int o.1), (1, .int o.2.1), (0, .ref a_D)] → W p l e ({ frames := 0, cells := 0, slots := 0, locals := 0 }) s m args below meth c H locs 0 0 Q (F0 m 113 ls [])) → W p l e ({ frames := 0, cells := 0, slots := 0, locals := 0 }) s m args below meth c H locs 0 0 Q (F0 m 21 ls []) := by
  intro k
  induction k with
  | zero =>
    intro v2 v1 D_order D_pile D_next o H locs ls hf
    exact absurd hf (by simp [f_Ref_tell_L21])
  | succ k ih =>
    intro v2 v1 D_order D_pile D_next o H locs ls hf hP hD hS hl kk
    rw [f_Ref_tell_L21] at hf
    refine lv_iload_n hx hb d_Ref_tell_21 rfl (lv_at hl 0 rfl) ?_
    refine lv_if_le (tgt := 113) hx hb d_Ref_tell_22 (by decide +kernel) (fun c1 => ?_) (fun c1 => ?_)
    · have hf := x_pos c1 hf
      cases hf
      exact kk _ _ ls hP hD hS (lv_sub hl [0, 1, 2] rfl)
    · have hf := x_neg c1 hf
      refine lv_aload_n hx hb d_Ref_tell_25 rfl (lv_at hl 2 rfl) ?_
      refine va_get (D := (dC, dI)) (ci := 6) (v := .ref a_D_pile) (C := "SyntaxTreesModel") (T := F_Ref) (N := 28) hx hb hts (fun w h => List.mem_cons_of_mem _ (in_Ref w h)) hown hK.1 hP 0 rfl rfl 26 (by decide +kernel) (hts _ (List.mem_cons_of_mem _ m_533)) (fun _ h9 => h9) rfl d_Ref_tell_26 ?_
      refine lv_iload_n hx hb d_Ref_tell_29 rfl (lv_at hl 0 rfl) ?_
      refine lv_iconst (v := (1 : Int32)) hx hb d_Ref_tell_30 (by decide +kernel) ?_
      refine lv_isub hx hb d_Ref_tell_31 ?_
      obtain ⟨h2, hf⟩ := x_gd hf
      refine va_iald hx hb hK.1 hP 4 0 rfl rfl h2 d_Ref_tell_32 ?_
      refine lv_istore_n (lv' := [(3, .int (D_pile (v2 - (1 : Int32)).toNatClampNeg)), (2, .int v2), (1, .int v1), (0, .ref a_D)]) hx hb d_Ref_tell_33 rfl hl (by decide +kernel) rfl (fun ls hl => ?_)
      refine lv_aload_n hx hb d_Ref_tell_34 rfl (lv_at hl 3 rfl) ?_
      refine va_get (D := (dC, dI)) (ci := 6) (v := .ref a_D_next) (C := "SyntaxTreesModel") (T := F_Ref) (N := 28) hx hb hts (fun w h => List.mem_cons_of_mem _ (in_Ref w h)) hown hK.1 hP 0 rfl rfl 27 (by decide +kernel) (hts _ (List.mem_cons_of_mem _ m_534)) (fun _ h9 => h9) rfl d_Ref_tell_35 ?_
      refine lv_iload_n hx hb d_Ref_tell_38 rfl (lv_at hl 1 rfl) ?_
      refine lv_iconst (v := (1 : Int32)) hx hb d_Ref_tell_39 (by decide +kernel) ?_
      refine lv_isub hx hb d_Ref_tell_40 ?_
      obtain ⟨h3, hf⟩ := x_gd hf
      refine va_iald hx hb hK.1 hP 5 0 rfl rfl h3 d_Ref_tell_41 ?_
      refine lv_aload_n hx hb d_Ref_tell_42 rfl (lv_at hl 3 rfl) ?_
      refine va_get (D := (dC, dI)) (ci := 6) (v := .ref a_D_parts) (C := "SyntaxTreesModel") (T := F_Ref) (N := 28) hx hb hts (fun w h => List.mem_cons_of_mem _ (in_Ref w h)) hown hK.1 hP 0 rfl rfl 23 (by decide +kernel) (hts _ (List.mem_cons_of_mem _ m_530)) (fun _ h9 => h9) rfl d_Ref_tell_43 ?_
      refine lv_iload_n hx hb d_Ref_tell_46 rfl (lv_at hl 0 rfl) ?_
      obtain ⟨h4, hf⟩ := x_gd hf
      refine va_iald hx hb hK.1 hP 2 0 rfl rfl h4 d_Ref_tell_47 ?_
      refine lv_icmp_ge (tgt := 97) hx hb d_Ref_tell_48 (by decide +kernel) (fun c5 => ?_) (fun c5 => ?_)
      · have hf := x_pos c5 hf
        refine lv_aload_n hx hb d_Ref_tell_97 rfl (lv_at hl 3 rfl) ?_
        refine va_get (D := (dC, dI)) (ci := 6) (v := .ref a_D_order) (C := "SyntaxTreesModel") (T := F_Ref) (N := 28) hx hb hts (fun w h => List.mem_cons_of_mem _ (in_Ref w h)) hown hK.1 hP 0 rfl rfl 25 (by decide +kernel) (hts _ (List.mem_cons_of_mem _ m_532)) (fun _ h9 => h9) rfl d_Ref_tell_98 ?_
        refine lv_iload_n hx hb d_Ref_tell_101 rfl (lv_at hl 2 rfl) ?_
        refine lv_iload_n hx hb d_Ref_tell_102 rfl (lv_at hl 0 rfl) ?_
        obtain ⟨h6, hf⟩ := x_gd hf
        refine x_iast (w1 := [(a_D, .inr (6, [.int D_symbols, .ref a_D_types, .ref a_D_sortOf, .int D_sorts, .int D_rules, .int D_isOpen, .ref a_D_makes, .ref a_D_starts, .ref a_D_told, .int D_all, .ref a_D_row, .int D_length, .ref a_D_many, .ref a_D_ways, .ref a_D_base, .int D_isFound, .int D_foundLimit, .int D_nodes, .ref a_D_ruleOf, .ref a_D_sortAt, .ref a_D_from, .ref a_D_upTo, .ref a_D_firsts, .ref a_D_parts, .ref a_D_variables, .ref a_D_order, .ref a_D_pile, .ref a_D_next])), (a_D_firsts, .inl (cI, 12000, .inl D_firsts)), (a_D_parts, .inl (cI, 12000, .inl D_parts)), (a_D_order, .inl (cI, 12000, .inl (upd D_order v1.toNatClampNeg (D_pile (v2 - (1 : Int32)).toNatClampNeg)))), (a_D_pile, .inl (cI, 12000, .inl D_pile)), (a_D_next, .inl (cI, 12000, .inl D_next))]) hx hb hK.1 hP hD hS 3 0 rfl rfl h6 d_Ref_tell_103 rfl (fun H locs hP hD hS => ?_)
        refine lv_iinc (v := (v1 + (1 : Int32))) (lv' := [(1, .int (v1 + (1 : Int32))), (3, .int (D_pile (v2 - (1 : Int32)).toNatClampNeg)), (2, .int v2), (0, .ref a_D)]) hx hb d_Ref_tell_104 hl (k := 2) rfl rfl (by decide +kernel) rfl (fun ls hl => ?_)
        refine lv_iinc (v := (v2 + (-1 : Int32))) (lv' := [(2, .int (v2 + (-1 : Int32))), (1, .int (v1 + (1 : Int32))), (3, .int (D_pile (v2 - (1 : Int32)).toNatClampNeg)), (0, .ref a_D)]) hx hb d_Ref_tell_107 hl (k := 2) rfl rfl (by decide +kernel) rfl (fun ls hl => ?_)
        refine lv_goto (tgt := 21) hx hb d_Ref_tell_110 (by decide +kernel) ?_
        exact ih (v2 + (-1 : Int32)) (v1 + (1 : Int32)) (upd D_order v1.toNatClampNeg (D_pile (v2 - (1 : Int32)).toNatClampNeg)) D_pile D_next o _ _ ls hf hP hD hS (lv_sub hl [0, 1, 3] rfl) kk
      · have hf := x_neg c5 hf
        refine lv_aload_n hx hb d_Ref_tell_51 rfl (lv_at hl 3 rfl) ?_
        refine va_get (D := (dC, dI)) (ci := 6) (v := .ref a_D_pile) (C := "SyntaxTreesModel") (T := F_Ref) (N := 28) hx hb hts (fun w h => List.mem_cons_of_mem _ (in_Ref w h)) hown hK.1 hP 0 rfl rfl 26 (by decide +kernel) (hts _ (List.mem_cons_of_mem _ m_533)) (fun _ h9 => h9) rfl d_Ref_tell_52 ?_
        refine lv_iload_n hx hb d_Ref_tell_55 rfl (lv_at hl 1 rfl) ?_
        refine lv_aload_n hx hb d_Ref_tell_56 rfl (lv_at hl 3 rfl) ?_
        refine va_get (D := (dC, dI)) (ci := 6) (v := .ref a_D_firsts) (C := "SyntaxTreesModel") (T := F_Ref) (N := 28) hx hb hts (fun w h => List.mem_cons_of_mem _ (in_Ref w h)) hown hK.1 hP 0 rfl rfl 22 (by decide +kernel) (hts _ (List.mem_cons_of_mem _ m_529)) (fun _ h9 => h9) rfl d_Ref_tell_57 ?_
        refine lv_iload_n hx hb d_Ref_tell_60 rfl (lv_at hl 0 rfl) ?_
        obtain ⟨h7, hf⟩ := x_gd hf
        refine va_iald hx hb hK.1 hP 1 0 rfl rfl h7 d_Ref_tell_61 ?_
        refine lv_aload_n hx hb d_Ref_tell_62 rfl (lv_at hl 3 rfl) ?_
        refine va_get (D := (dC, dI)) (ci := 6) (v := .ref a_D_next) (C := "SyntaxTreesModel") (T := F_Ref) (N := 28) hx hb hts (fun w h => List.mem_cons_of_mem _ (in_Ref w h)) hown hK.1 hP 0 rfl rfl 27 (by decide +kernel) (hts _ (List.mem_cons_of_mem _ m_534)) (fun _ h9 => h9) rfl d_Ref_tell_63 ?_
        refine lv_iload_n hx hb d_Ref_tell_66 rfl (lv_at hl 1 rfl) ?_
        refine lv_iconst (v := (1 : Int32)) hx hb d_Ref_tell_67 (by decide +kernel) ?_
        refine lv_isub hx hb d_Ref_tell_68 ?_
        obtain ⟨h8, hf⟩ := x_gd hf
        refine va_iald hx hb hK.1 hP 5 0 rfl rfl h8 d_Ref_tell_69 ?_
        refine lv_iadd hx hb d_Ref_tell_70 ?_
        obtain ⟨h9, hf⟩ := x_gd hf
        refine x_iast (w1 := [(a_D, .inr (6, [.int D_symbols, .ref a_D_types, .ref a_D_sortOf, .int D_sorts, .int D_rules, .int D_isOpen, .ref a_D_makes, .ref a_D_starts, .ref a_D_told, .int D_all, .ref a_D_row, .int D_length, .ref a_D_many, .ref a_D_ways, .ref a_D_base, .int D_isFound, .int D_foundLimit, .int D_nodes, .ref a_D_ruleOf, .ref a_D_sortAt, .ref a_D_from, .ref a_D_upTo, .ref a_D_firsts, .ref a_D_parts, .ref a_D_variables, .ref a_D_order, .ref a_D_pile, .ref a_D_next])), (a_D_firsts, .inl (cI, 12000, .inl D_firsts)), (a_D_parts, .inl (cI, 12000, .inl D_parts)), (a_D_order, .inl (cI, 12000, .inl D_order)), (a_D_pile, .inl (cI, 12000, .inl (upd D_pile v2.toNatClampNeg ((D_firsts (D_pile (v2 - (1 : Int32)).toNatClampNeg).toNatClampNeg) + (D_next (v2 - (1 : Int32)).toNatClampNeg))))), (a_D_next, .inl (cI, 12000, .inl D_next))]) hx hb hK.1 hP hD hS 4 0 rfl rfl h9 d_Ref_tell_71 rfl (fun H locs hP hD hS => ?_)
        refine lv_aload_n hx hb d_Ref_tell_72 rfl (lv_at hl 3 rfl) ?_
        refine va_get (D := (dC, dI)) (ci := 6) (v := .ref a_D_next) (C := "SyntaxTreesModel") (T := F_Ref) (N := 28) hx hb hts (fun w h => List.mem_cons_of_mem _ (in_Ref w h)) hown hK.1 hP 0 rfl rfl 27 (by decide +kernel) (hts _ (List.mem_cons_of_mem _ m_534)) (fun _ h9 => h9) rfl d_Ref_tell_73 ?_
        refine lv_iload_n hx hb d_Ref_tell_76 rfl (lv_at hl 1 rfl) ?_
        refine lv_iconst (v := (1 : Int32)) hx hb d_Ref_tell_77 (by decide +kernel) ?_
        refine lv_isub hx hb d_Ref_tell_78 ?_
        refine lv_dup2_11 hx hb d_Ref_tell_79 rfl rfl ?_
        obtain ⟨h10, hf⟩ := x_gd hf
        refine va_iald hx hb hK.1 hP 5 0 rfl rfl h10 d_Ref_tell_80 ?_
        refine lv_iconst (v := (1 : Int32)) hx hb d_Ref_tell_81 (by decide +kernel) ?_
        refine lv_iadd hx hb d_Ref_tell_82 ?_
        obtain ⟨h11, hf⟩ := x_gd hf
        refine x_iast (w1 := [(a_D, .inr (6, [.int D_symbols, .ref a_D_types, .ref a_D_sortOf, .int D_sorts, .int D_rules, .int D_isOpen, .ref a_D_makes, .ref a_D_starts, .ref a_D_told, .int D_all, .ref a_D_row, .int D_length, .ref a_D_many, .ref a_D_ways, .ref a_D_base, .int D_isFound, .int D_foundLimit, .int D_nodes, .ref a_D_ruleOf, .ref a_D_sortAt, .ref a_D_from, .ref a_D_upTo, .ref a_D_firsts, .ref a_D_parts, .ref a_D_variables, .ref a_D_order, .ref a_D_pile, .ref a_D_next])), (a_D_firsts, .inl (cI, 12000, .inl D_firsts)), (a_D_parts, .inl (cI, 12000, .inl D_parts)), (a_D_order, .inl (cI, 12000, .inl D_order)), (a_D_pile, .inl (cI, 12000, .inl (upd D_pile v2.toNatClampNeg ((D_firsts (D_pile (v2 - (1 : Int32)).toNatClampNeg).toNatClampNeg) + (D_next (v2 - (1 : Int32)).toNatClampNeg))))), (a_D_next, .inl (cI, 12000, .inl (upd D_next (v2 - (1 : Int32)).toNatClampNeg ((D_next (v2 - (1 : Int32)).toNatClampNeg) + (1 : Int32)))))]) hx hb hK.1 hP hD hS 5 0 rfl rfl h11 d_Ref_tell_83 rfl (fun H locs hP hD hS => ?_)
        refine lv_aload_n hx hb d_Ref_tell_84 rfl (lv_at hl 3 rfl) ?_
        refine va_get (D := (dC, dI)) (ci := 6) (v := .ref a_D_next) (C := "SyntaxTreesModel") (T := F_Ref) (N := 28) hx hb hts (fun w h => List.mem_cons_of_mem _ (in_Ref w h)) hown hK.1 hP 0 rfl rfl 27 (by decide +kernel) (hts _ (List.mem_cons_of_mem _ m_534)) (fun _ h9 => h9) rfl d_Ref_tell_85 ?_
        refine lv_iload_n hx hb d_Ref_tell_88 rfl (lv_at hl 1 rfl) ?_
        refine lv_iconst (v := (0 : Int32)) hx hb d_Ref_tell_89 (by decide +kernel) ?_
        obtain ⟨h12, hf⟩ := x_gd hf
        refine x_iast (w1 := [(a_D, .inr (6, [.int D_symbols, .ref a_D_types, .ref a_D_sortOf, .int D_sorts, .int D_rules, .int D_isOpen, .ref a_D_makes, .ref a_D_starts, .ref a_D_told, .int D_all, .ref a_D_row, .int D_length, .ref a_D_many, .ref a_D_ways, .ref a_D_base, .int D_isFound, .int D_foundLimit, .int D_nodes, .ref a_D_ruleOf, .ref a_D_sortAt, .ref a_D_from, .ref a_D_upTo, .ref a_D_firsts, .ref a_D_parts, .ref a_D_variables, .ref a_D_order, .ref a_D_pile, .ref a_D_next])), (a_D_firsts, .inl (cI, 12000, .inl D_firsts)), (a_D_parts, .inl (cI, 12000, .inl D_parts)), (a_D_order, .inl (cI, 12000, .inl D_order)), (a_D_pile, .inl (cI, 12000, .inl (upd D_pile v2.toNatClampNeg ((D_firsts (D_pile (v2 - (1 : Int32)).toNatClampNeg).toNatClampNeg) + (D_next (v2 - (1 : Int32)).toNatClampNeg))))), (a_D_next, .inl (cI, 12000, .inl (upd (upd D_next (v2 - (1 : Int32)).toNatClampNeg ((D_next (v2 - (1 : Int32)).toNatClampNeg) + (1 : Int32))) v2.toNatClampNeg (0 : Int32))))]) hx hb hK.1 hP hD hS 5 0 rfl rfl h12 d_Ref_tell_90 rfl (fun H locs hP hD hS => ?_)
        refine lv_iinc (v := (v2 + (1 : Int32))) (lv' := [(2, .int (v2 + (1 : Int32))), (3, .int (D_pile (v2 - (1 : Int32)).toNatClampNeg)), (1, .int v1), (0, .ref a_D)]) hx hb d_Ref_tell_91 hl (k := 1) rfl rfl (by decide +kernel) rfl (fun ls hl => ?_)
        refine lv_goto (tgt := 110) hx hb d_Ref_tell_94 (by decide +kernel) ?_
        refine lv_goto (tgt := 21) hx hb d_Ref_tell_110 (by decide +kernel) ?_
        exact ih (v2 + (1 : Int32)) v1 D_order (upd D_pile v2.toNatClampNeg ((D_firsts (D_pile (v2 - (1 : Int32)).toNatClampNeg).toNatClampNeg) + (D_next (v2 - (1 : Int32)).toNatClampNeg))) (upd (upd D_next (v2 - (1 : Int32)).toNatClampNeg ((D_next (v2 - (1 : Int32)).toNatClampNeg) + (1 : Int32))) v2.toNatClampNeg (0 : Int32)) o _ _ ls hf hP hD hS (lv_sub hl [0, 2, 3] rfl) kk
set_option maxHeartbeats 4000000 in
set_option maxRecDepth 100000 in
theorem c_Ref_tell (l : Launch) (dC : Nat → ClassId) (dI : Nat → Nat → Nat) (cI cJ cB : ClassId) (a_D a_D_types a_D_sortOf a_D_makes a_D_starts a_D_told a_D_row a_D_many a_D_ways a_D_base a_D_ruleOf a_D_sortAt a_D_from a_D_upTo a_D_firsts a_D_parts a_D_variables a_D_order a_D_pile a_D_next : Nat)  (D_symbols : Int32) (D_sorts : Int32) (D_rules : Int32) (D_isOpen : Int32) (D_all : Int32) (D_length : Int32) (D_isFound : Int32) (D_foundLimit : Int32) (D_nodes : Int32) (D_firsts : Nat → Int32) (D_parts : Nat → Int32) (D_order : Nat → Int32) (D_pile : Nat → Int32) (D_next : Nat → Int32)  (sz : Nat) (n : Nat) (o : (Nat → Int32) × (Nat → Int32) × (Nat → Int32)) (hf : f_Ref_tell n D_firsts D_parts D_order D_pile D_next = some o) : Met l y_Ref_tell w_Ref_tell ({ frames := 0, cells := 0, slots := 0, locals := 0 }) (va_Pc [.ref a_D] (fun U => U.heap.size = sz ∧ va_P (dC, dI) vwCl [(a_D, .inr (6, [.int D_symbols, .ref a_D_types, .ref a_D_sortOf, .int D_sorts, .int D_rules, .int D_isOpen, .ref a_D_makes, .ref a_D_starts, .ref a_D_told, .int D_all, .ref a_D_row, .int D_length, .ref a_D_many, .ref a_D_ways, .ref a_D_base, .int D_isFound, .int D_foundLimit, .int D_nodes, .ref a_D_ruleOf, .ref a_D_sortAt, .ref a_D_from, .ref a_D_upTo, .ref a_D_firsts, .ref a_D_parts, .ref a_D_variables, .ref a_D_order, .ref a_D_pile, .ref a_D_next])), (a_D_firsts, .inl (cI, 12000, .inl D_firsts)), (a_D_parts, .inl (cI, 12000, .inl D_parts)), (a_D_order, .inl (cI, 12000, .inl D_order)), (a_D_pile, .inl (cI, 12000, .inl D_pile)), (a_D_next, .inl (cI, 12000, .inl D_next))] U.heap ∧ x_K (dC, dI) [(cI, .int), (cJ, .long), (cB, .byte)] U ∧ va_D (fun _ => True) [(a_D, .inr (6, [.int D_symbols, .ref a_D_types, .ref a_D_sortOf, .int D_sorts, .int D_rules, .int D_isOpen, .ref a_D_makes, .ref a_D_starts, .ref a_D_told, .int D_all, .ref a_D_row, .int D_length, .ref a_D_many, .ref a_D_ways, .ref a_D_base, .int D_isFound, .int D_foundLimit, .int D_nodes, .ref a_D_ruleOf, .ref a_D_sortAt, .ref a_D_from, .ref a_D_upTo, .ref a_D_firsts, .ref a_D_parts, .ref a_D_variables, .ref a_D_order, .ref a_D_pile, .ref a_D_next])), (a_D_firsts, .inl (cI, 12000, .inl D_firsts)), (a_D_parts, .inl (cI, 12000, .inl D_parts)), (a_D_order, .inl (cI, 12000, .inl D_order)), (a_D_pile, .inl (cI, 12000, .inl D_pile)), (a_D_next, .inl (cI, 12000, .inl D_next))])) (va_Qv (fun (_ : Unit) => True) (fun _ t => va_P (dC, dI) vwCl [(a_D, .inr (6, [.int D_symbols, .ref a_D_types, .ref a_D_sortOf, .int D_sorts, .int D_rules, .int D_isOpen, .ref a_D_makes, .ref a_D_starts, .ref a_D_told, .int D_all, .ref a_D_row, .int D_length, .ref a_D_many, .ref a_D_ways, .ref a_D_base, .int D_isFound, .int D_foundLimit, .int D_nodes, .ref a_D_ruleOf, .ref a_D_sortAt, .ref a_D_from, .ref a_D_upTo, .ref a_D_firsts, .ref a_D_parts, .ref a_D_variables, .ref a_D_order, .ref a_D_pile, .ref a_D_next])), (a_D_firsts, .inl (cI, 12000, .inl D_firsts)), (a_D_parts, .inl (cI, 12000, .inl D_parts)), (a_D_order, .inl (cI, 12000, .inl o.1)), (a_D_pile, .inl (cI, 12000, .inl o.2.1)), (a_D_next, .inl (cI, 12000, .inl o.2.2))] t.heap ∧ va_D (va_A [(a_D, .inr (6, [.int D_symbols, .ref a_D_types, .ref a_D_sortOf, .int D_sorts, .int D_rules, .int D_isOpen, .ref a_D_makes, .ref a_D_starts, .ref a_D_told, .int D_all, .ref a_D_row, .int D_length, .ref a_D_many, .ref a_D_ways, .ref a_D_base, .int D_isFound, .int D_foundLimit, .int D_nodes, .ref a_D_ruleOf, .ref a_D_sortAt, .ref a_D_from, .ref a_D_upTo, .ref a_D_firsts, .ref a_D_parts, .ref a_D_variables, .ref a_D_order, .ref a_D_pile, .ref a_D_next])), (a_D_firsts, .inl (cI, 12000, .inl D_firsts)), (a_D_parts, .inl (cI, 12000, .inl D_parts)), (a_D_order, .inl (cI, 12000, .inl D_order)), (a_D_pile, .inl (cI, 12000, .inl D_pile)), (a_D_next, .inl (cI, 12000, .inl D_next))] sz) [(a_D, .inr (6, [.int D_symbols, .ref a_D_types, .ref a_D_sortOf, .int D_sorts, .int D_rules, .int D_isOpen, .ref a_D_makes, .ref a_D_starts, .ref a_D_told, .int D_all, .ref a_D_row, .int D_length, .ref a_D_many, .ref a_D_ways, .ref a_D_base, .int D_isFound, .int D_foundLimit, .int D_nodes, .ref a_D_ruleOf, .ref a_D_sortAt, .ref a_D_from, .ref a_D_upTo, .ref a_D_firsts, .ref a_D_parts, .ref a_D_variables, .ref a_D_order, .ref a_D_pile, .ref a_D_next])), (a_D_firsts, .inl (cI, 12000, .inl D_firsts)), (a_D_parts, .inl (cI, 12000, .inl D_parts)), (a_D_order, .inl (cI, 12000, .inl o.1)), (a_D_pile, .inl (cI, 12000, .inl o.2.1)), (a_D_next, .inl (cI, 12000, .inl o.2.2))]) (va_A [(a_D, .inr (6, [.int D_symbols, .ref a_D_types, .ref a_D_sortOf, .int D_sorts, .int D_rules, .int D_isOpen, .ref a_D_makes, .ref a_D_starts, .ref a_D_told, .int D_all, .ref a_D_row, .int D_length, .ref a_D_many, .ref a_D_ways, .ref a_D_base, .int D_isFound, .int D_foundLimit, .int D_nodes, .ref a_D_ruleOf, .ref a_D_sortAt, .ref a_D_from, .ref a_D_upTo, .ref a_D_firsts, .ref a_D_parts, .ref a_D_variables, .ref a_D_order, .ref a_D_pile, .ref a_D_next])), (a_D_firsts, .inl (cI, 12000, .inl D_firsts)), (a_D_parts, .inl (cI, 12000, .inl D_parts)), (a_D_order, .inl (cI, 12000, .inl D_order)), (a_D_pile, .inl (cI, 12000, .inl D_pile)), (a_D_next, .inl (cI, 12000, .inl D_next))] sz)) 0 0 (va_A [(a_D, .inr (6, [.int D_symbols, .ref a_D_types, .ref a_D_sortOf, .int D_sorts, .int D_rules, .int D_isOpen, .ref a_D_makes, .ref a_D_starts, .ref a_D_told, .int D_all, .ref a_D_row, .int D_length, .ref a_D_many, .ref a_D_ways, .ref a_D_base, .int D_isFound, .int D_foundLimit, .int D_nodes, .ref a_D_ruleOf, .ref a_D_sortAt, .ref a_D_from, .ref a_D_upTo, .ref a_D_firsts, .ref a_D_parts, .ref a_D_variables, .ref a_D_order, .ref a_D_pile, .ref a_D_next])), (a_D_firsts, .inl (cI, 12000, .inl D_firsts)), (a_D_parts, .inl (cI, 12000, .inl D_parts)), (a_D_order, .inl (cI, 12000, .inl D_order)), (a_D_pile, .inl (cI, 12000, .inl D_pile)), (a_D_next, .inl (cI, 12000, .inl D_next))] sz) := by
  refine Met.ofW (cc := b_Ref_tell) (maxL := 4) (ret := none) (by decide +kernel) rfl ?_
  intro p e s m args below meth c s₁ B hml hv
  obtain ⟨rfl, hsz, hP, hK, hD0⟩ := hv
  have hx := B.exec
  have hb := B.bytes
  have hr := B.returns
  have hts := atoms_spec (ws := w_Ref_tell) B.pre
  have hown : s.vm.findClass "SyntaxTreesModel" = some m.cls := findClass_of_methodNamed B.named
  have hlocks := B.notSynchronized
  subst hsz
  have hD := hD0.self (sz := s.heap.size)
  generalize hAe : va_A [(a_D, .inr (6, [.int D_symbols, .ref a_D_types, .ref a_D_sortOf, .int D_sorts, .int D_rules, .int D_isOpen, .ref a_D_makes, .ref a_D_starts, .ref a_D_told, .int D_all, .ref a_D_row, .int D_length, .ref a_D_many, .ref a_D_ways, .ref a_D_base, .int D_isFound, .int D_foundLimit, .int D_nodes, .ref a_D_ruleOf, .ref a_D_sortAt, .ref a_D_from, .ref a_D_upTo, .ref a_D_firsts, .ref a_D_parts, .ref a_D_variables, .ref a_D_order, .ref a_D_pile, .ref a_D_next])), (a_D_firsts, .inl (cI, 12000, .inl D_firsts)), (a_D_parts, .inl (cI, 12000, .inl D_parts)), (a_D_order, .inl (cI, 12000, .inl D_order)), (a_D_pile, .inl (cI, 12000, .inl D_pile)), (a_D_next, .inl (cI, 12000, .inl D_next))] s.heap.size = A at hD ⊢
  have hA : ∀ q : Nat, s.heap.size ≤ q → A q := fun q h => by rw [← hAe]; exact Or.inr h
  have hS : va_S A s.heap s.heap [] := va_S.rf
  have hP : va_P (dC, dI) vwCl [(a_D, .inr (6, [.int D_symbols, .ref a_D_types, .ref a_D_sortOf, .int D_sorts, .int D_rules, .int D_isOpen, .ref a_D_makes, .ref a_D_starts, .ref a_D_told, .int D_all, .ref a_D_row, .int D_length, .ref a_D_many, .ref a_D_ways, .ref a_D_base, .int D_isFound, .int D_foundLimit, .int D_nodes, .ref a_D_ruleOf, .ref a_D_sortAt, .ref a_D_from, .ref a_D_upTo, .ref a_D_firsts, .ref a_D_parts, .ref a_D_variables, .ref a_D_order, .ref a_D_pile, .ref a_D_next])), (a_D_firsts, .inl (cI, 12000, .inl D_firsts)), (a_D_parts, .inl (cI, 12000, .inl D_parts)), (a_D_order, .inl (cI, 12000, .inl D_order)), (a_D_pile, .inl (cI, 12000, .inl D_pile)), (a_D_next, .inl (cI, 12000, .inl D_next))] s.heap := hP
  have hl := lv_entry ([.ref a_D]) (n := 4) (Nat.le_of_ble_eq_true rfl)
  rw [lg_entry_eq]
  generalize (lg_sl ([.ref a_D]) ++ List.replicate (4 - (lg_sl ([.ref a_D])).length) Slot.unset).toArray = ls at hl ⊢
  have hl : lv_has ls 4 [(0, .ref a_D)] := hl
  refine x_Q (fun Q hQ => ?_)
  unfold f_Ref_tell at hf
  refine lv_iconst (v := (0 : Int32)) hx hb d_Ref_tell_0 (by decide +kernel) ?_
  refine lv_istore_n (lv' := [(1, .int (0 : Int32)), (0, .ref a_D)]) hx hb d_Ref_tell_1 rfl hl (by decide +kernel) rfl (fun ls hl => ?_)
  refine lv_iconst (v := (0 : Int32)) hx hb d_Ref_tell_2 (by decide +kernel) ?_
  refine lv_istore_n (lv' := [(2, .int (0 : Int32)), (1, .int (0 : Int32)), (0, .ref a_D)]) hx hb d_Ref_tell_3 rfl hl (by decide +kernel) rfl (fun ls hl => ?_)
  refine lv_aload_n hx hb d_Ref_tell_4 rfl (lv_at hl 2 rfl) ?_
  refine va_get (D := (dC, dI)) (ci := 6) (v := .ref a_D_pile) (C := "SyntaxTreesModel") (T := F_Ref) (N := 28) hx hb hts (fun w h => List.mem_cons_of_mem _ (in_Ref w h)) hown hK.1 hP 0 rfl rfl 26 (by decide +kernel) (hts _ (List.mem_cons_of_mem _ m_533)) (fun _ h9 => h9) rfl d_Ref_tell_5 ?_
  refine lv_iload_n hx hb d_Ref_tell_8 rfl (lv_at hl 0 rfl) ?_
  refine lv_iconst (v := (0 : Int32)) hx hb d_Ref_tell_9 (by decide +kernel) ?_
  obtain ⟨h1, hf⟩ := x_gd hf
  refine x_iast (w1 := [(a_D, .inr (6, [.int D_symbols, .ref a_D_types, .ref a_D_sortOf, .int D_sorts, .int D_rules, .int D_isOpen, .ref a_D_makes, .ref a_D_starts, .ref a_D_told, .int D_all, .ref a_D_row, .int D_length, .ref a_D_many, .ref a_D_ways, .ref a_D_base, .int D_isFound, .int D_foundLimit, .int D_nodes, .ref a_D_ruleOf, .ref a_D_sortAt, .ref a_D_from, .ref a_D_upTo, .ref a_D_firsts, .ref a_D_parts, .ref a_D_variables, .ref a_D_order, .ref a_D_pile, .ref a_D_next])), (a_D_firsts, .inl (cI, 12000, .inl D_firsts)), (a_D_parts, .inl (cI, 12000, .inl D_parts)), (a_D_order, .inl (cI, 12000, .inl D_order)), (a_D_pile, .inl (cI, 12000, .inl (upd D_pile (0 : Int32).toNatClampNeg (0 : Int32)))), (a_D_next, .inl (cI, 12000, .inl D_next))]) hx hb hK.1 hP hD hS 4 0 rfl rfl h1 d_Ref_tell_10 rfl (fun H locs hP hD hS => ?_)
  refine lv_aload_n hx hb d_Ref_tell_11 rfl (lv_at hl 2 rfl) ?_
  refine va_get (D := (dC, dI)) (ci := 6) (v := .ref a_D_next) (C := "SyntaxTreesModel") (T := F_Ref) (N := 28) hx hb hts (fun w h => List.mem_cons_of_mem _ (in_Ref w h)) hown hK.1 hP 0 rfl rfl 27 (by decide +kernel) (hts _ (List.mem_cons_of_mem _ m_534)) (fun _ h9 => h9) rfl d_Ref_tell_12 ?_
  refine lv_iload_n hx hb d_Ref_tell_15 rfl (lv_at hl 0 rfl) ?_
  refine lv_iconst (v := (0 : Int32)) hx hb d_Ref_tell_16 (by decide +kernel) ?_
  obtain ⟨h2, hf⟩ := x_gd hf
  refine x_iast (w1 := [(a_D, .inr (6, [.int D_symbols, .ref a_D_types, .ref a_D_sortOf, .int D_sorts, .int D_rules, .int D_isOpen, .ref a_D_makes, .ref a_D_starts, .ref a_D_told, .int D_all, .ref a_D_row, .int D_length, .ref a_D_many, .ref a_D_ways, .ref a_D_base, .int D_isFound, .int D_foundLimit, .int D_nodes, .ref a_D_ruleOf, .ref a_D_sortAt, .ref a_D_from, .ref a_D_upTo, .ref a_D_firsts, .ref a_D_parts, .ref a_D_variables, .ref a_D_order, .ref a_D_pile, .ref a_D_next])), (a_D_firsts, .inl (cI, 12000, .inl D_firsts)), (a_D_parts, .inl (cI, 12000, .inl D_parts)), (a_D_order, .inl (cI, 12000, .inl D_order)), (a_D_pile, .inl (cI, 12000, .inl (upd D_pile (0 : Int32).toNatClampNeg (0 : Int32)))), (a_D_next, .inl (cI, 12000, .inl (upd D_next (0 : Int32).toNatClampNeg (0 : Int32))))]) hx hb hK.1 hP hD hS 5 0 rfl rfl h2 d_Ref_tell_17 rfl (fun H locs hP hD hS => ?_)
  refine lv_iinc (v := ((0 : Int32) + (1 : Int32))) (lv' := [(2, .int ((0 : Int32) + (1 : Int32))), (1, .int (0 : Int32)), (0, .ref a_D)]) hx hb d_Ref_tell_18 hl (k := 0) rfl rfl (by decide +kernel) rfl (fun ls hl => ?_)
  obtain ⟨x3, hx3, hf⟩ := x_bd hf
  refine w_Ref_tell_L21 n D_symbols D_sorts D_rules D_isOpen D_all D_length D_isFound D_foundLimit D_nodes D_firsts D_parts hx hb hml hown hts hK hA n ((0 : Int32) + (1 : Int32)) (0 : Int32) D_order (upd D_pile (0 : Int32).toNatClampNeg (0 : Int32)) (upd D_next (0 : Int32).toNatClampNeg (0 : Int32)) x3 _ _ ls hx3 hP hD hS (lv_sub hl [0, 1, 2] rfl) (fun H locs ls hP hD hS hl => ?_)
  cases hf
  subst hQ
  exact W.vret hx hb hr (fun t ht _ => ⟨⟨(), rfl, trivial, by rw [ht]; exact hP, hD⟩, hS.F ht⟩) hS.2.2 d_Ref_tell_113
set_option maxHeartbeats 4000000 in
set_option maxRecDepth 100000 in
theorem c_Ref_node (l : Launch) (dC : Nat → ClassId) (dI : Nat → Nat → Nat) (cI cJ cB : ClassId) (a_D a_D_types a_D_sortOf a_D_makes a_D_starts a_D_told a_D_row a_D_many a_D_ways a_D_base a_D_ruleOf a_D_sortAt a_D_from a_D_upTo a_D_firsts a_D_parts a_D_variables a_D_order a_D_pile a_D_next : Nat)  (D_symbols : Int32) (D_sorts : Int32) (D_rules : Int32) (D_isOpen : Int32) (D_all : Int32) (D_length : Int32) (D_isFound : Int32) (D_foundLimit : Int32) (D_nodes : Int32) (D_ruleOf : Nat → Int32) (D_sortAt : Nat → Int32) (D_from : Nat → Int32) (D_upTo : Nat → Int32) (D_firsts : Nat → Int32) (D_parts : Nat → Int32) (p1 : Int32) (p2 : Int32) (n : Nat) (o : Int32) (hf : f_Ref_node n D_nodes D_ruleOf D_sortAt D_from D_upTo D_firsts D_parts p1 p2 = some o) : Met l y_Ref_node w_Ref_node ({ frames := 0, cells := 0, slots := 0, locals := 0 }) (va_Pc [.ref a_D, .int p1, .int p2] (fun U => va_P (dC, dI) vwCl [(a_D, .inr (6, [.int D_symbols, .ref a_D_types, .ref a_D_sortOf, .int D_sorts, .int D_rules, .int D_isOpen, .ref a_D_makes, .ref a_D_starts, .ref a_D_told, .int D_all, .ref a_D_row, .int D_length, .ref a_D_many, .ref a_D_ways, .ref a_D_base, .int D_isFound, .int D_foundLimit, .int D_nodes, .ref a_D_ruleOf, .ref a_D_sortAt, .ref a_D_from, .ref a_D_upTo, .ref a_D_firsts, .ref a_D_parts, .ref a_D_variables, .ref a_D_order, .ref a_D_pile, .ref a_D_next])), (a_D_ruleOf, .inl (cI, 12000, .inl D_ruleOf)), (a_D_sortAt, .inl (cI, 12000, .inl D_sortAt)), (a_D_from, .inl (cI, 12000, .inl D_from)), (a_D_upTo, .inl (cI, 12000, .inl D_upTo)), (a_D_firsts, .inl (cI, 12000, .inl D_firsts)), (a_D_parts, .inl (cI, 12000, .inl D_parts))] U.heap ∧ x_K (dC, dI) [(cI, .int), (cJ, .long), (cB, .byte)] U)) (QcRead o) 0 0 (fun _ => False) := by
  refine Met.ofW (cc := b_Ref_node) (maxL := 3) (ret := (some .int)) (by decide +kernel) rfl ?_
  intro p e s m args below meth c s₁ B hml hv
  obtain ⟨rfl, hP, hK⟩ := hv
  have hx := B.exec
  have hb := B.bytes
  have hr := B.returns
  have hts := atoms_spec (ws := w_Ref_node) B.pre
  have hown : s.vm.findClass "SyntaxTreesModel" = some m.cls := findClass_of_methodNamed B.named
  have hlocks := B.notSynchronized
  have hP : va_P (dC, dI) vwCl [(a_D, .inr (6, [.int D_symbols, .ref a_D_types, .ref a_D_sortOf, .int D_sorts, .int D_rules, .int D_isOpen, .ref a_D_makes, .ref a_D_starts, .ref a_D_told, .int D_all, .ref a_D_row, .int D_length, .ref a_D_many, .ref a_D_ways, .ref a_D_base, .int D_isFound, .int D_foundLimit, .int D_nodes, .ref a_D_ruleOf, .ref a_D_sortAt, .ref a_D_from, .ref a_D_upTo, .ref a_D_firsts, .ref a_D_parts, .ref a_D_variables, .ref a_D_order, .ref a_D_pile, .ref a_D_next])), (a_D_ruleOf, .inl (cI, 12000, .inl D_ruleOf)), (a_D_sortAt, .inl (cI, 12000, .inl D_sortAt)), (a_D_from, .inl (cI, 12000, .inl D_from)), (a_D_upTo, .inl (cI, 12000, .inl D_upTo)), (a_D_firsts, .inl (cI, 12000, .inl D_firsts)), (a_D_parts, .inl (cI, 12000, .inl D_parts))] s.heap := hP
  have hl := lv_entry ([.ref a_D, .int p1, .int p2]) (n := 3) (Nat.le_of_ble_eq_true rfl)
  rw [lg_entry_eq]
  generalize (lg_sl ([.ref a_D, .int p1, .int p2]) ++ List.replicate (3 - (lg_sl ([.ref a_D, .int p1, .int p2])).length) Slot.unset).toArray = ls at hl ⊢
  have hl : lv_has ls 3 [(0, .ref a_D), (1, .int p1), (2, .int p2)] := hl
  refine x_Q (fun Q hQ => ?_)
  unfold f_Ref_node at hf
  refine lv_iload_n hx hb d_Ref_node_0 rfl (lv_at hl 1 rfl) ?_
  refine lv_if_lt (tgt := 12) hx hb d_Ref_node_1 (by decide +kernel) (fun c1 => ?_) (fun c1 => ?_)
  · have hf := x_pos c1 hf
    refine lv_iconst (v := (-1 : Int32)) hx hb d_Ref_node_12 (by decide +kernel) ?_
    cases hf
    subst hQ
    exact W.iret hx hb hr (fun t ht _ => ⟨rfl, ht⟩) (fun _ h => absurd h List.not_mem_nil) d_Ref_node_13
  · have hf := x_neg c1 hf
    refine lv_iload_n hx hb d_Ref_node_4 rfl (lv_at hl 1 rfl) ?_
    refine lv_aload_n hx hb d_Ref_node_5 rfl (lv_at hl 0 rfl) ?_
    refine va_get (D := (dC, dI)) (ci := 6) (v := .int D_nodes) (C := "SyntaxTreesModel") (T := F_Ref) (N := 28) hx hb hts (fun w h => List.mem_cons_of_mem _ (in_Ref w h)) hown hK.1 hP 0 rfl rfl 17 (by decide +kernel) (hts _ (List.mem_cons_of_mem _ m_524)) (fun _ h9 => h9) rfl d_Ref_node_6 ?_
    refine lv_icmp_lt (tgt := 14) hx hb d_Ref_node_9 (by decide +kernel) (fun c2 => ?_) (fun c2 => ?_)
    · have hf := x_pos c2 hf
      refine lv_iload_n hx hb d_Ref_node_14 rfl (lv_at hl 2 rfl) ?_
      by_cases c3 : p2 = 0
      · have hf := x_pos c3 hf
        refine lv_tableIn (tgt := 52) hx hb d_Ref_node_15 (by rw [c3]; decide) (by rw [c3]; decide) (by rw [c3]; rfl) (by decide +kernel) ?_
        refine lv_aload_n hx hb d_Ref_node_52 rfl (lv_at hl 0 rfl) ?_
        refine va_get (D := (dC, dI)) (ci := 6) (v := .ref a_D_ruleOf) (C := "SyntaxTreesModel") (T := F_Ref) (N := 28) hx hb hts (fun w h => List.mem_cons_of_mem _ (in_Ref w h)) hown hK.1 hP 0 rfl rfl 18 (by decide +kernel) (hts _ (List.mem_cons_of_mem _ m_525)) (fun _ h9 => h9) rfl d_Ref_node_53 ?_
        refine lv_iload_n hx hb d_Ref_node_56 rfl (lv_at hl 1 rfl) ?_
        obtain ⟨h4, hf⟩ := x_gd hf
        refine va_iald hx hb hK.1 hP 1 0 rfl rfl h4 d_Ref_node_57 ?_
        cases hf
        subst hQ
        exact W.iret hx hb hr (fun t ht _ => ⟨rfl, ht⟩) (fun _ h => absurd h List.not_mem_nil) d_Ref_node_58
      · have hf := x_neg c3 hf
        by_cases c5 : p2 = 1
        · have hf := x_pos c5 hf
          refine lv_tableIn (tgt := 59) hx hb d_Ref_node_15 (by rw [c5]; decide) (by rw [c5]; decide) (by rw [c5]; rfl) (by decide +kernel) ?_
          refine lv_aload_n hx hb d_Ref_node_59 rfl (lv_at hl 0 rfl) ?_
          refine va_get (D := (dC, dI)) (ci := 6) (v := .ref a_D_sortAt) (C := "SyntaxTreesModel") (T := F_Ref) (N := 28) hx hb hts (fun w h => List.mem_cons_of_mem _ (in_Ref w h)) hown hK.1 hP 0 rfl rfl 19 (by decide +kernel) (hts _ (List.mem_cons_of_mem _ m_526)) (fun _ h9 => h9) rfl d_Ref_node_60 ?_
          refine lv_iload_n hx hb d_Ref_node_63 rfl (lv_at hl 1 rfl) ?_
          obtain ⟨h6, hf⟩ := x_gd hf
          refine va_iald hx hb hK.1 hP 2 0 rfl rfl h6 d_Ref_node_64 ?_
          cases hf
          subst hQ
          exact W.iret hx hb hr (fun t ht _ => ⟨rfl, ht⟩) (fun _ h => absurd h List.not_mem_nil) d_Ref_node_65
        · have hf := x_neg c5 hf
          by_cases c7 : p2 = 2
          · have hf := x_pos c7 hf
            refine lv_tableIn (tgt := 66) hx hb d_Ref_node_15 (by rw [c7]; decide) (by rw [c7]; decide) (by rw [c7]; rfl) (by decide +kernel) ?_
            refine lv_aload_n hx hb d_Ref_node_66 rfl (lv_at hl 0 rfl) ?_
            refine va_get (D := (dC, dI)) (ci := 6) (v := .ref a_D_from) (C := "SyntaxTreesModel") (T := F_Ref) (N := 28) hx hb hts (fun w h => List.mem_cons_of_mem _ (in_Ref w h)) hown hK.1 hP 0 rfl rfl 20 (by decide +kernel) (hts _ (List.mem_cons_of_mem _ m_527)) (fun _ h9 => h9) rfl d_Ref_node_67 ?_
            refine lv_iload_n hx hb d_Ref_node_70 rfl (lv_at hl 1 rfl) ?_
            obtain ⟨h8, hf⟩ := x_gd hf
            refine va_iald hx hb hK.1 hP 3 0 rfl rfl h8 d_Ref_node_71 ?_
            cases hf
            subst hQ
            exact W.iret hx hb hr (fun t ht _ => ⟨rfl, ht⟩) (fun _ h => absurd h List.not_mem_nil) d_Ref_node_72
          · have hf := x_neg c7 hf
            by_cases c9 : p2 = 3
            · have hf := x_pos c9 hf
              refine lv_tableIn (tgt := 73) hx hb d_Ref_node_15 (by rw [c9]; decide) (by rw [c9]; decide) (by rw [c9]; rfl) (by decide +kernel) ?_
              refine lv_aload_n hx hb d_Ref_node_73 rfl (lv_at hl 0 rfl) ?_
              refine va_get (D := (dC, dI)) (ci := 6) (v := .ref a_D_upTo) (C := "SyntaxTreesModel") (T := F_Ref) (N := 28) hx hb hts (fun w h => List.mem_cons_of_mem _ (in_Ref w h)) hown hK.1 hP 0 rfl rfl 21 (by decide +kernel) (hts _ (List.mem_cons_of_mem _ m_528)) (fun _ h9 => h9) rfl d_Ref_node_74 ?_
              refine lv_iload_n hx hb d_Ref_node_77 rfl (lv_at hl 1 rfl) ?_
              obtain ⟨h10, hf⟩ := x_gd hf
              refine va_iald hx hb hK.1 hP 4 0 rfl rfl h10 d_Ref_node_78 ?_
              cases hf
              subst hQ
              exact W.iret hx hb hr (fun t ht _ => ⟨rfl, ht⟩) (fun _ h => absurd h List.not_mem_nil) d_Ref_node_79
            · have hf := x_neg c9 hf
              by_cases c11 : p2 = 4
              · have hf := x_pos c11 hf
                refine lv_tableIn (tgt := 80) hx hb d_Ref_node_15 (by rw [c11]; decide) (by rw [c11]; decide) (by rw [c11]; rfl) (by decide +kernel) ?_
                refine lv_aload_n hx hb d_Ref_node_80 rfl (lv_at hl 0 rfl) ?_
                refine va_get (D := (dC, dI)) (ci := 6) (v := .ref a_D_firsts) (C := "SyntaxTreesModel") (T := F_Ref) (N := 28) hx hb hts (fun w h => List.mem_cons_of_mem _ (in_Ref w h)) hown hK.1 hP 0 rfl rfl 22 (by decide +kernel) (hts _ (List.mem_cons_of_mem _ m_529)) (fun _ h9 => h9) rfl d_Ref_node_81 ?_
                refine lv_iload_n hx hb d_Ref_node_84 rfl (lv_at hl 1 rfl) ?_
                obtain ⟨h12, hf⟩ := x_gd hf
                refine va_iald hx hb hK.1 hP 5 0 rfl rfl h12 d_Ref_node_85 ?_
                cases hf
                subst hQ
                exact W.iret hx hb hr (fun t ht _ => ⟨rfl, ht⟩) (fun _ h => absurd h List.not_mem_nil) d_Ref_node_86
              · have hf := x_neg c11 hf
                by_cases c13 : p2 = 5
                · have hf := x_pos c13 hf
                  refine lv_tableIn (tgt := 87) hx hb d_Ref_node_15 (by rw [c13]; decide) (by rw [c13]; decide) (by rw [c13]; rfl) (by decide +kernel) ?_
                  refine lv_aload_n hx hb d_Ref_node_87 rfl (lv_at hl 0 rfl) ?_
                  refine va_get (D := (dC, dI)) (ci := 6) (v := .ref a_D_parts) (C := "SyntaxTreesModel") (T := F_Ref) (N := 28) hx hb hts (fun w h => List.mem_cons_of_mem _ (in_Ref w h)) hown hK.1 hP 0 rfl rfl 23 (by decide +kernel) (hts _ (List.mem_cons_of_mem _ m_530)) (fun _ h9 => h9) rfl d_Ref_node_88 ?_
                  refine lv_iload_n hx hb d_Ref_node_91 rfl (lv_at hl 1 rfl) ?_
                  obtain ⟨h14, hf⟩ := x_gd hf
                  refine va_iald hx hb hK.1 hP 6 0 rfl rfl h14 d_Ref_node_92 ?_
                  cases hf
                  subst hQ
                  exact W.iret hx hb hr (fun t ht _ => ⟨rfl, ht⟩) (fun _ h => absurd h List.not_mem_nil) d_Ref_node_93
                · have hf := x_neg c13 hf
                  refine lv_tableOut (tgt := 94) hx hb d_Ref_node_15 (by have := lv_neT c3 (a := 0) (by decide +kernel); have := lv_neT c5 (a := 1) (by decide +kernel); have := lv_neT c7 (a := 2) (by decide +kernel); have := lv_neT c9 (a := 3) (by decide +kernel); have := lv_neT c11 (a := 4) (by decide +kernel); have := lv_neT c13 (a := 5) (by decide +kernel); omega) (by decide +kernel) ?_
                  refine lv_iconst (v := (-1 : Int32)) hx hb d_Ref_node_94 (by decide +kernel) ?_
                  cases hf
                  subst hQ
                  exact W.iret hx hb hr (fun t ht _ => ⟨rfl, ht⟩) (fun _ h => absurd h List.not_mem_nil) d_Ref_node_95
    · have hf := x_neg c2 hf
      refine lv_iconst (v := (-1 : Int32)) hx hb d_Ref_node_12 (by decide +kernel) ?_
      cases hf
      subst hQ
      exact W.iret hx hb hr (fun t ht _ => ⟨rfl, ht⟩) (fun _ h => absurd h List.not_mem_nil) d_Ref_node_13
set_option maxHeartbeats 4000000 in
set_option maxRecDepth 100000 in
theorem c_Ref_told (l : Launch) (dC : Nat → ClassId) (dI : Nat → Nat → Nat) (cI cJ cB : ClassId) (a_D a_D_types a_D_sortOf a_D_makes a_D_starts a_D_told a_D_row a_D_many a_D_ways a_D_base a_D_ruleOf a_D_sortAt a_D_from a_D_upTo a_D_firsts a_D_parts a_D_variables a_D_order a_D_pile a_D_next : Nat)  (D_symbols : Int32) (D_sorts : Int32) (D_rules : Int32) (D_isOpen : Int32) (D_all : Int32) (D_length : Int32) (D_isFound : Int32) (D_foundLimit : Int32) (D_nodes : Int32) (D_ruleOf : Nat → Int32) (D_variables : Nat → Int32) (D_order : Nat → Int32) (p1 : Int32) (n : Nat) (o : Int32) (hf : f_Ref_told n D_nodes D_ruleOf D_variables D_order p1 = some o) : Met l y_Ref_told w_Ref_told ({ frames := 0, cells := 0, slots := 0, locals := 0 }) (va_Pc [.ref a_D, .int p1] (fun U => va_P (dC, dI) vwCl [(a_D, .inr (6, [.int D_symbols, .ref a_D_types, .ref a_D_sortOf, .int D_sorts, .int D_rules, .int D_isOpen, .ref a_D_makes, .ref a_D_starts, .ref a_D_told, .int D_all, .ref a_D_row, .int D_length, .ref a_D_many, .ref a_D_ways, .ref a_D_base, .int D_isFound, .int D_foundLimit, .int D_nodes, .ref a_D_ruleOf, .ref a_D_sortAt, .ref a_D_from, .ref a_D_upTo, .ref a_D_firsts, .ref a_D_parts, .ref a_D_variables, .ref a_D_order, .ref a_D_pile, .ref a_D_next])), (a_D_ruleOf, .inl (cI, 12000, .inl D_ruleOf)), (a_D_variables, .inl (cI, 12000, .inl D_variables)), (a_D_order, .inl (cI, 12000, .inl D_order))] U.heap ∧ x_K (dC, dI) [(cI, .int), (cJ, .long), (cB, .byte)] U)) (QcRead o) 0 0 (fun _ => False) := by
  refine Met.ofW (cc := b_Ref_told) (maxL := 3) (ret := (some .int)) (by decide +kernel) rfl ?_
  intro p e s m args below meth c s₁ B hml hv
  obtain ⟨rfl, hP, hK⟩ := hv
  have hx := B.exec
  have hb := B.bytes
  have hr := B.returns
  have hts := atoms_spec (ws := w_Ref_told) B.pre
  have hown : s.vm.findClass "SyntaxTreesModel" = some m.cls := findClass_of_methodNamed B.named
  have hlocks := B.notSynchronized
  have hP : va_P (dC, dI) vwCl [(a_D, .inr (6, [.int D_symbols, .ref a_D_types, .ref a_D_sortOf, .int D_sorts, .int D_rules, .int D_isOpen, .ref a_D_makes, .ref a_D_starts, .ref a_D_told, .int D_all, .ref a_D_row, .int D_length, .ref a_D_many, .ref a_D_ways, .ref a_D_base, .int D_isFound, .int D_foundLimit, .int D_nodes, .ref a_D_ruleOf, .ref a_D_sortAt, .ref a_D_from, .ref a_D_upTo, .ref a_D_firsts, .ref a_D_parts, .ref a_D_variables, .ref a_D_order, .ref a_D_pile, .ref a_D_next])), (a_D_ruleOf, .inl (cI, 12000, .inl D_ruleOf)), (a_D_variables, .inl (cI, 12000, .inl D_variables)), (a_D_order, .inl (cI, 12000, .inl D_order))] s.heap := hP
  have hl := lv_entry ([.ref a_D, .int p1]) (n := 3) (Nat.le_of_ble_eq_true rfl)
  rw [lg_entry_eq]
  generalize (lg_sl ([.ref a_D, .int p1]) ++ List.replicate (3 - (lg_sl ([.ref a_D, .int p1])).length) Slot.unset).toArray = ls at hl ⊢
  have hl : lv_has ls 3 [(0, .ref a_D), (1, .int p1)] := hl
  refine x_Q (fun Q hQ => ?_)
  unfold f_Ref_told at hf
  refine lv_iload_n hx hb d_Ref_told_0 rfl (lv_at hl 1 rfl) ?_
  refine lv_if_lt (tgt := 12) hx hb d_Ref_told_1 (by decide +kernel) (fun c1 => ?_) (fun c1 => ?_)
  · have hf := x_pos c1 hf
    refine lv_iconst (v := (-1 : Int32)) hx hb d_Ref_told_12 (by decide +kernel) ?_
    cases hf
    subst hQ
    exact W.iret hx hb hr (fun t ht _ => ⟨rfl, ht⟩) (fun _ h => absurd h List.not_mem_nil) d_Ref_told_13
  · have hf := x_neg c1 hf
    refine lv_iload_n hx hb d_Ref_told_4 rfl (lv_at hl 1 rfl) ?_
    refine lv_aload_n hx hb d_Ref_told_5 rfl (lv_at hl 0 rfl) ?_
    refine va_get (D := (dC, dI)) (ci := 6) (v := .int D_nodes) (C := "SyntaxTreesModel") (T := F_Ref) (N := 28) hx hb hts (fun w h => List.mem_cons_of_mem _ (in_Ref w h)) hown hK.1 hP 0 rfl rfl 17 (by decide +kernel) (hts _ (List.mem_cons_of_mem _ m_524)) (fun _ h9 => h9) rfl d_Ref_told_6 ?_
    refine lv_icmp_lt (tgt := 14) hx hb d_Ref_told_9 (by decide +kernel) (fun c2 => ?_) (fun c2 => ?_)
    · have hf := x_pos c2 hf
      refine lv_aload_n hx hb d_Ref_told_14 rfl (lv_at hl 0 rfl) ?_
      refine va_get (D := (dC, dI)) (ci := 6) (v := .ref a_D_order) (C := "SyntaxTreesModel") (T := F_Ref) (N := 28) hx hb hts (fun w h => List.mem_cons_of_mem _ (in_Ref w h)) hown hK.1 hP 0 rfl rfl 25 (by decide +kernel) (hts _ (List.mem_cons_of_mem _ m_532)) (fun _ h9 => h9) rfl d_Ref_told_15 ?_
      refine lv_iload_n hx hb d_Ref_told_18 rfl (lv_at hl 1 rfl) ?_
      obtain ⟨h3, hf⟩ := x_gd hf
      refine va_iald hx hb hK.1 hP 3 0 rfl rfl h3 d_Ref_told_19 ?_
      refine lv_istore_n (lv' := [(2, .int (D_order p1.toNatClampNeg)), (0, .ref a_D), (1, .int p1)]) hx hb d_Ref_told_20 rfl hl (by decide +kernel) rfl (fun ls hl => ?_)
      refine lv_aload_n hx hb d_Ref_told_21 rfl (lv_at hl 1 rfl) ?_
      refine va_get (D := (dC, dI)) (ci := 6) (v := .ref a_D_ruleOf) (C := "SyntaxTreesModel") (T := F_Ref) (N := 28) hx hb hts (fun w h => List.mem_cons_of_mem _ (in_Ref w h)) hown hK.1 hP 0 rfl rfl 18 (by decide +kernel) (hts _ (List.mem_cons_of_mem _ m_525)) (fun _ h9 => h9) rfl d_Ref_told_22 ?_
      refine lv_iload_n hx hb d_Ref_told_25 rfl (lv_at hl 0 rfl) ?_
      obtain ⟨h4, hf⟩ := x_gd hf
      refine va_iald hx hb hK.1 hP 1 0 rfl rfl h4 d_Ref_told_26 ?_
      refine lv_iconst (v := (-1 : Int32)) hx hb d_Ref_told_27 (by decide +kernel) ?_
      refine lv_icmp_ne (tgt := 43) hx hb d_Ref_told_28 (by decide +kernel) (fun c5 => ?_) (fun c5 => ?_)
      · have hf := x_neg c5 hf
        refine lv_aload_n hx hb d_Ref_told_43 rfl (lv_at hl 1 rfl) ?_
        refine va_get (D := (dC, dI)) (ci := 6) (v := .ref a_D_ruleOf) (C := "SyntaxTreesModel") (T := F_Ref) (N := 28) hx hb hts (fun w h => List.mem_cons_of_mem _ (in_Ref w h)) hown hK.1 hP 0 rfl rfl 18 (by decide +kernel) (hts _ (List.mem_cons_of_mem _ m_525)) (fun _ h9 => h9) rfl d_Ref_told_44 ?_
        refine lv_iload_n hx hb d_Ref_told_47 rfl (lv_at hl 0 rfl) ?_
        obtain ⟨h6, hf⟩ := x_gd hf
        refine va_iald hx hb hK.1 hP 1 0 rfl rfl h6 d_Ref_told_48 ?_
        cases hf
        subst hQ
        exact W.iret hx hb hr (fun t ht _ => ⟨rfl, ht⟩) (fun _ h => absurd h List.not_mem_nil) d_Ref_told_49
      · have hf := x_pos c5 hf
        refine lv_bipush (v := (-2 : Int32)) hx hb d_Ref_told_31 (by decide +kernel) ?_
        refine lv_aload_n hx hb d_Ref_told_33 rfl (lv_at hl 1 rfl) ?_
        refine va_get (D := (dC, dI)) (ci := 6) (v := .ref a_D_variables) (C := "SyntaxTreesModel") (T := F_Ref) (N := 28) hx hb hts (fun w h => List.mem_cons_of_mem _ (in_Ref w h)) hown hK.1 hP 0 rfl rfl 24 (by decide +kernel) (hts _ (List.mem_cons_of_mem _ m_531)) (fun _ h9 => h9) rfl d_Ref_told_34 ?_
        refine lv_iload_n hx hb d_Ref_told_37 rfl (lv_at hl 0 rfl) ?_
        obtain ⟨h7, hf⟩ := x_gd hf
        refine va_iald hx hb hK.1 hP 2 0 rfl rfl h7 d_Ref_told_38 ?_
        refine lv_isub hx hb d_Ref_told_39 ?_
        refine lv_goto (tgt := 49) hx hb d_Ref_told_40 (by decide +kernel) ?_
        obtain rfl := Option.some.inj hf
        subst hQ
        exact W.iret hx hb hr (fun t ht _ => ⟨rfl, ht⟩) (fun _ h => absurd h List.not_mem_nil) d_Ref_told_49
    · have hf := x_neg c2 hf
      refine lv_iconst (v := (-1 : Int32)) hx hb d_Ref_told_12 (by decide +kernel) ?_
      cases hf
      subst hQ
      exact W.iret hx hb hr (fun t ht _ => ⟨rfl, ht⟩) (fun _ h => absurd h List.not_mem_nil) d_Ref_told_13
