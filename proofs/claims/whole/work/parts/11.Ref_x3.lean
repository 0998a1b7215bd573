set_option maxHeartbeats 4000000 in
set_option maxRecDepth 100000 in
theorem c_Ref_count (l : Launch) (dC : Nat → ClassId) (dI : Nat → Nat → Nat) (cI cJ cB : ClassId) (a_D a_D_types a_D_sortOf a_D_makes a_D_starts a_D_told a_D_row a_D_many a_D_ways a_D_base a_D_ruleOf a_D_sortAt a_D_from a_D_upTo a_D_firsts a_D_parts a_D_variables a_D_order a_D_pile a_D_next : Nat)  (D_symbols : Int32) (D_sorts : Int32) (D_rules : Int32) (D_isOpen : Int32) (D_all : Int32) (D_length : Int32) (D_isFound : Int32) (D_foundLimit : Int32) (D_nodes : Int32) (p1 : Int32) (n : Nat) (o : Int32) (hf : f_Ref_count n D_symbols D_sorts D_rules D_all D_length D_nodes p1 = some o) : Met l y_Ref_count w_Ref_count ({ frames := 0, cells := 0, slots := 0, locals := 0 }) (va_Pc [.ref a_D, .int p1] (fun U => va_P (dC, dI) vwCl [(a_D, .inr (6, [.int D_symbols, .ref a_D_types, .ref a_D_sortOf, .int D_sorts, .int D_rules, .int D_isOpen, .ref a_D_makes, .ref a_D_starts, .ref a_D_told, .int D_all, .ref a_D_row, .int D_length, .ref a_D_many, .ref a_D_ways, .ref a_D_base, .int D_isFound, .int D_foundLimit, .int D_nodes, .ref a_D_ruleOf, .ref a_D_sortAt, .ref a_D_from, .ref a_D_upTo, .ref a_D_firsts, .ref a_D_parts, .ref a_D_variables, .ref a_D_order, .ref a_D_pile, .ref a_D_next]))] U.heap ∧ x_K (dC, dI) [(cI, .int), (cJ, .long), (cB, .byte)] U)) (QcRead o) 0 0 (fun _ => False) := by
  refine Met.ofW (cc := b_Ref_count) (maxL := 2) (ret := (some .int)) (by decide +kernel) rfl ?_
  intro p e s m args below meth c s₁ B hml hv
  obtain ⟨rfl, hP, hK⟩ := hv
  have hx := B.exec
  have hb := B.bytes
  have hr := B.returns
  have hts := atoms_spec (ws := w_Ref_count) B.pre
  have hown : s.vm.findClass "SyntaxTreesModel" = some m.cls := findClass_of_methodNamed B.named
  have hlocks := B.notSynchronized
  have hP : va_P (dC, dI) vwCl [(a_D, .inr (6, [.int D_symbols, .ref a_D_types, .ref a_D_sortOf, .int D_sorts, .int D_rules, .int D_isOpen, .ref a_D_makes, .ref a_D_starts, .ref a_D_told, .int D_all, .ref a_D_row, .int D_length, .ref a_D_many, .ref a_D_ways, .ref a_D_base, .int D_isFound, .int D_foundLimit, .int D_nodes, .ref a_D_ruleOf, .ref a_D_sortAt, .ref a_D_from, .ref a_D_upTo, .ref a_D_firsts, .ref a_D_parts, .ref a_D_variables, .ref a_D_order, .ref a_D_pile, .ref a_D_next]))] s.heap := hP
  have hl := lv_entry ([.ref a_D, .int p1]) (n := 2) (Nat.le_of_ble_eq_true rfl)
  rw [lg_entry_eq]
  generalize (lg_sl ([.ref a_D, .int p1]) ++ List.replicate (2 - (lg_sl ([.ref a_D, .int p1])).length) Slot.unset).toArray = ls at hl ⊢
  have hl : lv_has ls 2 [(0, .ref a_D), (1, .int p1)] := hl
  refine x_Q (fun Q hQ => ?_)
  unfold f_Ref_count at hf
  refine lv_iload_n hx hb d_Ref_count_0 rfl (lv_at hl 1 rfl) ?_
  by_cases c1 : p1 = 0
  · have hf := x_pos c1 hf
    refine lv_tableIn (tgt := 40) hx hb d_Ref_count_1 (by rw [c1]; decide) (by rw [c1]; decide) (by rw [c1]; rfl) (by decide +kernel) ?_
    refine lv_aload_n hx hb d_Ref_count_40 rfl (lv_at hl 0 rfl) ?_
    refine va_get (D := (dC, dI)) (ci := 6) (v := .int D_symbols) (C := "SyntaxTreesModel") (T := F_Ref) (N := 28) hx hb hts (fun w h => List.mem_cons_of_mem _ (in_Ref w h)) hown hK.1 hP 0 rfl rfl 0 (by decide +kernel) (hts _ (List.mem_cons_of_mem _ m_507)) (fun _ h9 => h9) rfl d_Ref_count_41 ?_
    cases hf
    subst hQ
    exact W.iret hx hb hr (fun t ht _ => ⟨rfl, ht⟩) (fun _ h => absurd h List.not_mem_nil) d_Ref_count_44
  · have hf := x_neg c1 hf
    by_cases c2 : p1 = 1
    · have hf := x_pos c2 hf
      refine lv_tableIn (tgt := 45) hx hb d_Ref_count_1 (by rw [c2]; decide) (by rw [c2]; decide) (by rw [c2]; rfl) (by decide +kernel) ?_
      refine lv_aload_n hx hb d_Ref_count_45 rfl (lv_at hl 0 rfl) ?_
      refine va_get (D := (dC, dI)) (ci := 6) (v := .int D_sorts) (C := "SyntaxTreesModel") (T := F_Ref) (N := 28) hx hb hts (fun w h => List.mem_cons_of_mem _ (in_Ref w h)) hown hK.1 hP 0 rfl rfl 3 (by decide +kernel) (hts _ (List.mem_cons_of_mem _ m_510)) (fun _ h9 => h9) rfl d_Ref_count_46 ?_
      cases hf
      subst hQ
      exact W.iret hx hb hr (fun t ht _ => ⟨rfl, ht⟩) (fun _ h => absurd h List.not_mem_nil) d_Ref_count_49
    · have hf := x_neg c2 hf
      by_cases c3 : p1 = 2
      · have hf := x_pos c3 hf
        refine lv_tableIn (tgt := 50) hx hb d_Ref_count_1 (by rw [c3]; decide) (by rw [c3]; decide) (by rw [c3]; rfl) (by decide +kernel) ?_
        refine lv_aload_n hx hb d_Ref_count_50 rfl (lv_at hl 0 rfl) ?_
        refine va_get (D := (dC, dI)) (ci := 6) (v := .int D_rules) (C := "SyntaxTreesModel") (T := F_Ref) (N := 28) hx hb hts (fun w h => List.mem_cons_of_mem _ (in_Ref w h)) hown hK.1 hP 0 rfl rfl 4 (by decide +kernel) (hts _ (List.mem_cons_of_mem _ m_511)) (fun _ h9 => h9) rfl d_Ref_count_51 ?_
        cases hf
        subst hQ
        exact W.iret hx hb hr (fun t ht _ => ⟨rfl, ht⟩) (fun _ h => absurd h List.not_mem_nil) d_Ref_count_54
      · have hf := x_neg c3 hf
        by_cases c4 : p1 = 3
        · have hf := x_pos c4 hf
          refine lv_tableIn (tgt := 55) hx hb d_Ref_count_1 (by rw [c4]; decide) (by rw [c4]; decide) (by rw [c4]; rfl) (by decide +kernel) ?_
          refine lv_aload_n hx hb d_Ref_count_55 rfl (lv_at hl 0 rfl) ?_
          refine va_get (D := (dC, dI)) (ci := 6) (v := .int D_all) (C := "SyntaxTreesModel") (T := F_Ref) (N := 28) hx hb hts (fun w h => List.mem_cons_of_mem _ (in_Ref w h)) hown hK.1 hP 0 rfl rfl 9 (by decide +kernel) (hts _ (List.mem_cons_of_mem _ m_516)) (fun _ h9 => h9) rfl d_Ref_count_56 ?_
          cases hf
          subst hQ
          exact W.iret hx hb hr (fun t ht _ => ⟨rfl, ht⟩) (fun _ h => absurd h List.not_mem_nil) d_Ref_count_59
        · have hf := x_neg c4 hf
          by_cases c5 : p1 = 4
          · have hf := x_pos c5 hf
            refine lv_tableIn (tgt := 60) hx hb d_Ref_count_1 (by rw [c5]; decide) (by rw [c5]; decide) (by rw [c5]; rfl) (by decide +kernel) ?_
            refine lv_aload_n hx hb d_Ref_count_60 rfl (lv_at hl 0 rfl) ?_
            refine va_get (D := (dC, dI)) (ci := 6) (v := .int D_length) (C := "SyntaxTreesModel") (T := F_Ref) (N := 28) hx hb hts (fun w h => List.mem_cons_of_mem _ (in_Ref w h)) hown hK.1 hP 0 rfl rfl 11 (by decide +kernel) (hts _ (List.mem_cons_of_mem _ m_518)) (fun _ h9 => h9) rfl d_Ref_count_61 ?_
            cases hf
            subst hQ
            exact W.iret hx hb hr (fun t ht _ => ⟨rfl, ht⟩) (fun _ h => absurd h List.not_mem_nil) d_Ref_count_64
          · have hf := x_neg c5 hf
            by_cases c6 : p1 = 5
            · have hf := x_pos c6 hf
              refine lv_tableIn (tgt := 65) hx hb d_Ref_count_1 (by rw [c6]; decide) (by rw [c6]; decide) (by rw [c6]; rfl) (by decide +kernel) ?_
              refine lv_aload_n hx hb d_Ref_count_65 rfl (lv_at hl 0 rfl) ?_
              refine va_get (D := (dC, dI)) (ci := 6) (v := .int D_nodes) (C := "SyntaxTreesModel") (T := F_Ref) (N := 28) hx hb hts (fun w h => List.mem_cons_of_mem _ (in_Ref w h)) hown hK.1 hP 0 rfl rfl 17 (by decide +kernel) (hts _ (List.mem_cons_of_mem _ m_524)) (fun _ h9 => h9) rfl d_Ref_count_66 ?_
              cases hf
              subst hQ
              exact W.iret hx hb hr (fun t ht _ => ⟨rfl, ht⟩) (fun _ h => absurd h List.not_mem_nil) d_Ref_count_69
            · have hf := x_neg c6 hf
              refine lv_tableOut (tgt := 70) hx hb d_Ref_count_1 (by have := lv_neT c1 (a := 0) (by decide +kernel); have := lv_neT c2 (a := 1) (by decide +kernel); have := lv_neT c3 (a := 2) (by decide +kernel); have := lv_neT c4 (a := 3) (by decide +kernel); have := lv_neT c5 (a := 4) (by decide +kernel); have := lv_neT c6 (a := 5) (by decide +kernel); omega) (by decide +kernel) ?_
              refine lv_iconst (v := (-1 : Int32)) hx hb d_Ref_count_70 (by decide +kernel) ?_
              cases hf
              subst hQ
              exact W.iret hx hb hr (fun t ht _ => ⟨rfl, ht⟩) (fun _ h => absurd h List.not_mem_nil) d_Ref_count_71
set_option maxHeartbeats 4000000 in
set_option maxRecDepth 100000 in
theorem c_Ref_check (l : Launch) (dC : Nat → ClassId) (dI : Nat → Nat → Nat) (cI cJ cB : ClassId) (a_D a_D_types a_D_sortOf a_D_makes a_D_starts a_D_told a_D_row a_D_many a_D_ways a_D_base a_D_ruleOf a_D_sortAt a_D_from a_D_upTo a_D_firsts a_D_parts a_D_variables a_D_order a_D_pile a_D_next : Nat)  (D_symbols : Int32) (D_sorts : Int32) (D_rules : Int32) (D_isOpen : Int32) (D_all : Int32) (D_length : Int32) (D_isFound : Int32) (D_foundLimit : Int32) (D_nodes : Int32)  (n : Nat) (o : Int32) (hf : f_Ref_check n  = some o) : Met l y_Ref_check w_Ref_check ({ frames := 0, cells := 0, slots := 0, locals := 0 }) (va_Pc [.ref a_D] (fun U => va_P (dC, dI) vwCl [(a_D, .inr (6, [.int D_symbols, .ref a_D_types, .ref a_D_sortOf, .int D_sorts, .int D_rules, .int D_isOpen, .ref a_D_makes, .ref a_D_starts, .ref a_D_told, .int D_all, .ref a_D_row, .int D_length, .ref a_D_many, .ref a_D_ways, .ref a_D_base, .int D_isFound, .int D_foundLimit, .int D_nodes, .ref a_D_ruleOf, .ref a_D_sortAt, .ref a_D_from, .ref a_D_upTo, .ref a_D_firsts, .ref a_D_parts, .ref a_D_variables, .ref a_D_order, .ref a_D_pile, .ref a_D_next]))] U.heap ∧ x_K (dC, dI) [(cI, .int), (cJ, .long), (cB, .byte)] U)) (QcRead o) 0 0 (fun _ => False) := by
  refine Met.ofW (cc := b_Ref_check) (maxL := 1) (ret := (some .int)) (by decide +kernel) rfl ?_
  intro p e s m args below meth c s₁ B hml hv
  obtain ⟨rfl, hP, hK⟩ := hv
  have hx := B.exec
  have hb := B.bytes
  have hr := B.returns
  have hts := atoms_spec (ws := w_Ref_check) B.pre
  have hown : s.vm.findClass "SyntaxTreesModel" = some m.cls := findClass_of_methodNamed B.named
  have hlocks := B.notSynchronized
  have hP : va_P (dC, dI) vwCl [(a_D, .inr (6, [.int D_symbols, .ref a_D_types, .ref a_D_sortOf, .int D_sorts, .int D_rules, .int D_isOpen, .ref a_D_makes, .ref a_D_starts, .ref a_D_told, .int D_all, .ref a_D_row, .int D_length, .ref a_D_many, .ref a_D_ways, .ref a_D_base, .int D_isFound, .int D_foundLimit, .int D_nodes, .ref a_D_ruleOf, .ref a_D_sortAt, .ref a_D_from, .ref a_D_upTo, .ref a_D_firsts, .ref a_D_parts, .ref a_D_variables, .ref a_D_order, .ref a_D_pile, .ref a_D_next]))] s.heap := hP
  have hl := lv_entry ([.ref a_D]) (n := 1) (Nat.le_of_ble_eq_true rfl)
  rw [lg_entry_eq]
  generalize (lg_sl ([.ref a_D]) ++ List.replicate (1 - (lg_sl ([.ref a_D])).length) Slot.unset).toArray = ls at hl ⊢
  have hl : lv_has ls 1 [(0, .ref a_D)] := hl
  refine x_Q (fun Q hQ => ?_)
  unfold f_Ref_check at hf
  refine lv_iconst (v := (1 : Int32)) hx hb d_Ref_check_0 (by decide +kernel) ?_
  cases hf
  subst hQ
  exact W.iret hx hb hr (fun t ht _ => ⟨rfl, ht⟩) (fun _ h => absurd h List.not_mem_nil) d_Ref_check_1
set_option maxHeartbeats 4000000 in
set_option maxRecDepth 100000 in
theorem w_Ref_stretch_L3 {p : Program} {l : Launch} {e : Env} {s : State} {m : MethodId} {args : Array Value} {below : List Frame} {meth : Method} {c : Code} {dC : Nat → ClassId} {dI : Nat → Nat → Nat} {cI cJ cB : ClassId} {a_D a_D_types a_D_sortOf a_D_makes a_D_starts a_D_told a_D_row a_D_many a_D_ways a_D_base a_D_ruleOf a_D_sortAt a_D_from a_D_upTo a_D_firsts a_D_parts a_D_variables a_D_order a_D_pile a_D_next : Nat} {A : Nat → Prop} {Q : State → Prop} (n : Nat) (v1 : Int32) (v2 : Int32) (v3 : Int32) (D_symbols : Int32) (D_sorts : Int32) (D_rules : Int32) (D_isOpen : Int32) (D_all : Int32) (D_length : Int32) (D_isFound : Int32) (D_foundLimit : Int32) (D_nodes : Int32) (D_types : Nat → Int32) (D_sortOf : Nat → Int32) (D_makes : Nat → Int32) (D_starts : Nat → Int32) (D_told : Nat → Int32) (D_row : Nat → Int32) (D_many : Nat → Int32) (D_ways : Nat → Int32) (D_next : Nat → Int32) (hx : p.tables.exec = Jvm.exec) (hb : c.code = b_Ref_stretch) (hml : c.maxLocals = 9) (hown : s.vm.findClass "SyntaxTreesModel" = some m.cls) (hts : ∀ w ∈ w_Ref_stretch, w.before args s = true) (hK : x_K (dC, dI) [(cI, .int), (cJ, .long), (cB, .byte)] s) (hA : ∀ q, s.heap.size ≤ q → A q) : ∀ (k : Nat) (v4 : Int32) (D_base : Nat → Int32) (o : Int32 × (Nat → Int32)) (H : Heap) (locs : List Loc) (ls : Array Slot), f_Ref_stretch_L3 n D_sorts k v4 D_base = some o → va_P (dC, dI) vwCl [(a_D, .inr (6, [.int D_symbols, .ref a_D_types, .ref a_D_sortOf, .int D_sorts, .int D_rules, .int D_isOpen, .ref a_D_makes, .ref a_D_starts, .ref a_D_told, .int D_all, .ref a_D_row, .int D_length, .ref a_D_many, .ref a_D_ways, .ref a_D_base, .int D_isFound, .int D_foundLimit, .int D_nodes, .ref a_D_ruleOf, .ref a_D_sortAt, .ref a_D_from, .ref a_D_upTo, .ref a_D_firsts, .ref a_D_parts, .ref a_D_variables, .ref a_D_order, .ref a_D_pile, .ref a_D_next])), (a_D_types, .inl (cI, 1000, .inl D_types)), (a_D_sortOf, .inl (cI, 1000, .inl D_sortOf)), (a_D_makes, .inl (cI, 1500, .inl D_makes)), (a_D_starts, .inl (cI, 1501, .inl D_starts)), (a_D_told, .inl (cI, 30000, .inl D_told)), (a_D_row, .inl (cI, 59, .inl D_row)), (a_D_many, .inl (cB, 360000, .inl D_many)), (a_D_ways, .inl (cB, 1890100, .inl D_ways)), (a_D_base, .inl (cI, 100, .inl D_base)), (a_D_next, .inl (cI, 12000, .inl D_next))] H → va_D A [(a_D, .inr (6, [.int D_symbols, .ref a_D_types, .ref a_D_sortOf, .int D_sorts, .int D_rules, .int D_isOpen, .ref a_D_makes, .ref a_D_starts, .ref a_D_told, .int D_all, .ref a_D_row, .int D_length, .ref a_D_many, .ref a_D_ways, .ref a_D_base, .int D_isFound, .int D_foundLimit, .int D_nodes, .ref a_D_ruleOf, .ref a_D_sortAt, .ref a_D_from, .ref a_D_upTo, .ref a_D_firsts, .ref a_D_parts, .ref a_D_variables, .ref a_D_order, .ref a_D_pile, .ref a_D_next])), (a_D_types, .inl (cI, 1000, .inl D_types)), (a_D_sortOf, .inl (cI, 1000, .inl D_sortOf)), (a_D_makes, .inl (cI, 1500, .inl D_makes)), (a_D_starts, .inl (cI, 1501, .inl D_starts)), (a_D_told, .inl (cI, 30000, .inl D_told)), (a_D_row, .inl (cI, 59, .inl D_row)), (a_D_many, .inl (cB, 360000, .inl D_many)), (a_D_ways, .inl (cB, 1890100, .inl D_ways)), (a_D_base, .inl (cI, 100, .inl D_base)), (a_D_next, .inl (cI, 12000, .inl D_next))] → va_S A s.heap H locs → lv_has ls 9 [(4, .int v4), (0, .ref a_D), (1, .int v1), (2, .int v2), (3, .int v3)] → (∀ (H : Heap) (locs : List Loc) (ls : Array Slot), va_P (dC, dI) vwCl [(a_D, .inr (6, [.int D_symbols, .ref a_D_types, .ref a_D_sortOf, .int D_sorts, .int D_rules, .int D_isOpen, .ref a_D_makes, .ref a_D_starts, .ref a_D_told, .int D_all, .ref a_D_row, .int D_length, .ref a_D_many, .ref a_D_ways, .ref a_D_base, .int D_isFound, .int D_foundLimit, .int D_nodes, .ref a_D_ruleOf, .ref a_D_sortAt, .ref a_D_from, .ref a_D_upTo, .ref a_D_firsts, .ref a_D_parts, .ref a_D_variables, .ref a_D_order, .ref a_D_pile, .ref a_D_next])), (a_D_types, .inl (cI, 1000, .inl D_types)), (a_D_sortOf, .inl (cI, 1000, .inl D_sortOf)), (a_D_makes, .inl (cI, 1500, .inl D_makes)), (a_D_starts, .inl (cI, 1501, .inl D_starts)), (a_D_told, .inl (cI, 30000, .inl D_told)), (a_D_row, .inl (cI, 59, .inl D_row)), (a_D_many, .inl (cB, 360000, .inl D_many)), (a_D_ways, .inl (cB, 1890100, .inl D_ways)), (a_D_base, .inl (cI, 100, .inl o.2)), (a_D_next, .inl (cI, 12000, .inl D_next))] H → va_D A [(a_D, .inr (6, [.int D_symbols, .ref a_D_types, .ref a_D_sortOf, .int D_sorts, .int D_rules, .int D_isOpen, .ref a_D_makes, .ref a_D_starts, .ref a_D_told, .int D_all, .ref a_D_row, .int D_length, .ref a_D_many, .ref a_D_ways, .ref a_D_base, .int D_isFound, .int D_foundLimit, .int D_nodes, .ref a_D_ruleOf, .ref a_D_sortAt, .ref a_D_from, .ref a_D_upTo, .ref a_D_firsts, .ref a_D_parts, .ref a_D_variables, .ref a_D_order, .ref a_D_pile, .ref a_D_next])), (a_D_types, .inl (cI, 1000, .inl D_types)), (a_D_sortOf, .inl (cI, 1000, .inl D_sortOf)), (a_D_makes, .inl (cI, 1500, .inl D_makes)), (a_D_starts, .inl (cI, 1501, .inl D_starts)), (a_D_told, .inl (cI, 30000, .inl D_told)), (a_D_row, .inl (cI, 59, .inl D_row)), (a_D_many, .inl (cB, 360000, .inl D_many)), (a_D_ways, .inl (cB, 1890100, .inl D_ways)), (a_D_base, .inl (cI, 100, .inl o.2)), (a_D_next, .inl (cI, 12000, .inl D_next))] → va_S A s.heap H locs → lv_has ls 9 [(4, .int o.1), (0, .ref a_D), (1, .int v1), (2, .int v2), (3, .int v3)] → W p l e ({ frames := 2, cells := 0, slots := 0, locals := 52 }) s m args below meth c H locs 0 0 Q (F0 m 26 ls [])) → W p l e ({ frames := 2, cells := 0, slots := 0, locals := 52 }) s m args below meth c H locs 0 0 Q (F0 m 3 ls []) := by
  intro k
  induction k with
  | zero =>
    intro v4 D_base o H locs ls hf
    exact absurd hf (by simp [f_Ref_stretch_L3])
  | succ k ih =>
    intro v4 D_base o H locs ls hf hP hD hS hl kk
    rw [f_Ref_stretch_L3] at hf
    refine lv_iload hx hb d_Ref_stretch_3 (lv_at hl 0 rfl) ?_
    refine lv_aload_n hx hb d_Ref_stretch_5 rfl (lv_at hl 1 rfl) ?_
    refine va_get (D := (dC, dI)) (ci := 6) (v := .int D_sorts) (C := "SyntaxTreesModel") (T := F_Ref) (N := 28) hx hb hts (fun w h => List.mem_cons_of_mem _ (in_Ref w h)) hown hK.1 hP 0 rfl rfl 3 (by decide +kernel) (hts _ (List.mem_cons_of_mem _ m_510)) (fun _ h9 => h9) rfl d_Ref_stretch_6 ?_
    refine lv_icmp_ge (tgt := 26) hx hb d_Ref_stretch_9 (by decide +kernel) (fun c1 => ?_) (fun c1 => ?_)
    · have hf := x_pos c1 hf
      cases hf
      exact kk _ _ ls hP hD hS (lv_sub hl [0, 1, 2, 3, 4] rfl)
    · have hf := x_neg c1 hf
      refine lv_aload_n hx hb d_Ref_stretch_12 rfl (lv_at hl 1 rfl) ?_
      refine va_get (D := (dC, dI)) (ci := 6) (v := .ref a_D_base) (C := "SyntaxTreesModel") (T := F_Ref) (N := 28) hx hb hts (fun w h => List.mem_cons_of_mem _ (in_Ref w h)) hown hK.1 hP 0 rfl rfl 14 (by decide +kernel) (hts _ (List.mem_cons_of_mem _ m_521)) (fun _ h9 => h9) rfl d_Ref_stretch_13 ?_
      refine lv_iload hx hb d_Ref_stretch_16 (lv_at hl 0 rfl) ?_
      refine lv_iconst (v := (0 : Int32)) hx hb d_Ref_stretch_18 (by decide +kernel) ?_
      obtain ⟨h2, hf⟩ := x_gd hf
      refine x_iast (w1 := [(a_D, .inr (6, [.int D_symbols, .ref a_D_types, .ref a_D_sortOf, .int D_sorts, .int D_rules, .int D_isOpen, .ref a_D_makes, .ref a_D_starts, .ref a_D_told, .int D_all, .ref a_D_row, .int D_length, .ref a_D_many, .ref a_D_ways, .ref a_D_base, .int D_isFound, .int D_foundLimit, .int D_nodes, .ref a_D_ruleOf, .ref a_D_sortAt, .ref a_D_from, .ref a_D_upTo, .ref a_D_firsts, .ref a_D_parts, .ref a_D_variables, .ref a_D_order, .ref a_D_pile, .ref a_D_next])), (a_D_types, .inl (cI, 1000, .inl D_types)), (a_D_sortOf, .inl (cI, 1000, .inl D_sortOf)), (a_D_makes, .inl (cI, 1500, .inl D_makes)), (a_D_starts, .inl (cI, 1501, .inl D_starts)), (a_D_told, .inl (cI, 30000, .inl D_told)), (a_D_row, .inl (cI, 59, .inl D_row)), (a_D_many, .inl (cB, 360000, .inl D_many)), (a_D_ways, .inl (cB, 1890100, .inl D_ways)), (a_D_base, .inl (cI, 100, .inl (upd D_base v4.toNatClampNeg (0 : Int32)))), (a_D_next, .inl (cI, 12000, .inl D_next))]) hx hb hK.1 hP hD hS 9 0 rfl rfl h2 d_Ref_stretch_19 rfl (fun H locs hP hD hS => ?_)
      refine lv_iinc (v := (v4 + (1 : Int32))) (lv' := [(4, .int (v4 + (1 : Int32))), (0, .ref a_D), (1, .int v1), (2, .int v2), (3, .int v3)]) hx hb d_Ref_stretch_20 hl (k := 0) rfl rfl (by decide +kernel) rfl (fun ls hl => ?_)
      refine lv_goto (tgt := 3) hx hb d_Ref_stretch_23 (by decide +kernel) ?_
      exact ih (v4 + (1 : Int32)) (upd D_base v4.toNatClampNeg (0 : Int32)) o _ _ ls hf hP hD hS (lv_sub hl [0, 1, 2, 3, 4] rfl) kk
set_option maxHeartbeats 4000000 in
set_option maxRecDepth 100000 in
theorem w_Ref_stretch_L99 {p : Program} {l : Launch} {e : Env} {s : State} {m : MethodId} {args : Array Value} {below : List Frame} {meth : Method} {c : Code} {dC : Nat → ClassId} {dI : Nat → Nat → Nat} {cI cJ cB : ClassId} {a_D a_D_types a_D_sortOf a_D_makes a_D_starts a_D_told a_D_row a_D_many a_D_ways a_D_base a_D_ruleOf a_D_sortAt a_D_from a_D_upTo a_D_firsts a_D_parts a_D_variables a_D_order a_D_pile a_D_next : Nat} {A : Nat → Prop} {Q : State → Prop} (n : Nat) (v6 : Int32) (v5 : Int32) (v1 : Int32) (v2 : Int32) (v3 : Int32) (D_symbols : Int32) (D_sorts : Int32) (D_rules : Int32) (D_isOpen : Int32) (D_all : Int32) (D_length : Int32) (D_isFound : Int32) (D_foundLimit : Int32) (D_nodes : Int32) (D_types : Nat → Int32) (D_sortOf : Nat → Int32) (D_makes : Nat → Int32) (D_starts : Nat → Int32) (D_told : Nat → Int32) (D_row : Nat → Int32) (D_many : Nat → Int32) (D_base : Nat → Int32) (D_next : Nat → Int32) (hx : p.tables.exec = Jvm.exec) (hb : c.code = b_Ref_stretch) (hml : c.maxLocals = 9) (hown : s.vm.findClass "SyntaxTreesModel" = some m.cls) (hts : ∀ w ∈ w_Ref_stretch, w.before args s = true) (hK : x_K (dC, dI) [(cI, .int), (cJ, .long), (cB, .byte)] s) (hA : ∀ q, s.heap.size ≤ q → A q) : ∀ (k : Nat) (v7 : Int32) (D_ways : Nat → Int32) (o : Int32 × (Nat → Int32)) (H : Heap) (locs : List Loc) (ls : Array Slot), f_Ref_stretch_L99 n v6 v5 v1 v2 D_types D_sortOf D_starts D_told D_row D_many k v7 D_ways = some o → va_P (dC, dI) vwCl [(a_D, .inr (6, [.int D_symbols, .ref a_D_types, .ref a_D_sortOf, .int D_sorts, .int D_rules, .int D_isOpen, .ref a_D_makes, .ref a_D_starts, .ref a_D_told, .int D_all, .ref a_D_row, .int D_length, .ref a_D_many, .ref a_D_ways, .ref a_D_base, .int D_isFound, .int D_foundLimit, .int D_nodes, .ref a_D_ruleOf, .ref a_D_sortAt, .ref a_D_from, .ref a_D_upTo, .ref a_D_firsts, .ref a_D_parts, .ref a_D_variables, .ref a_D_order, .ref a_D_pile, .ref a_D_next])), (a_D_types, .inl (cI, 1000, .inl D_types)), (a_D_sortOf, .inl (cI, 1000, .inl D_sortOf)), (a_D_makes, .inl (cI, 1500, .inl D_makes)), (a_D_starts, .inl (cI, 1501, .inl D_starts)), (a_D_told, .inl (cI, 30000, .inl D_told)), (a_D_row, .inl (cI, 59, .inl D_row)), (a_D_many, .inl (cB, 360000, .inl D_many)), (a_D_ways, .inl (cB, 1890100, .inl D_ways)), (a_D_base, .inl (cI, 100, .inl D_base)), (a_D_next, .inl (cI, 12000, .inl D_next))] H → va_D A [(a_D, .inr (6, [.int D_symbols, .ref a_D_types, .ref a_D_sortOf, .int D_sorts, .int D_rules, .int D_isOpen, .ref a_D_makes, .ref a_D_starts, .ref a_D_told, .int D_all, .ref a_D_row, .int D_length, .ref a_D_many, .ref a_D_ways, .ref a_D_base, .int D_isFound, .int D_foundLimit, .int D_nodes, .ref a_D_ruleOf, .ref a_D_sortAt, .ref a_D_from, .ref a_D_upTo, .ref a_D_firsts, .ref a_D_parts, .ref a_D_variables, .ref a_D_order, .ref a_D_pile, .ref a_D_next])), (a_D_types, .inl (cI, 1000, .inl D_types)), (a_D_sortOf, .inl (cI, 1000, .inl D_sortOf)), (a_D_makes, .inl (cI, 1500, .inl D_makes)), (a_D_starts, .inl (cI, 1501, .inl D_starts)), (a_D_told, .inl (cI, 30000, .inl D_told)), (a_D_row, .inl (cI, 59, .inl D_row)), (a_D_many, .inl (cB, 360000, .inl D_many)), (a_D_ways, .inl (cB, 1890100, .inl D_ways)), (a_D_base, .inl (cI, 100, .inl D_base)), (a_D_next, .inl (cI, 12000, .inl D_next))] → va_S A s.heap H locs → lv_has ls 9 [(7, .int v7), (6, .int v6), (5, .int v5), (0, .ref a_D), (1, .int v1), (2, .int v2), (3, .int v3)] → (∀ (H : Heap) (locs : List Loc) (ls : Array Slot), va_P (dC, dI) vwCl [(a_D, .inr (6, [.int D_symbols, .ref a_D_types, .ref a_D_sortOf, .int D_sorts, .int D_rules, .int D_isOpen, .ref a_D_makes, .ref a_D_starts, .ref a_D_told, .int D_all, .ref a_D_row, .int D_length, .ref a_D_many, .ref a_D_ways, .ref a_D_base, .int D_isFound, .int D_foundLimit, .int D_nodes, .ref a_D_ruleOf, .ref a_D_sortAt, .ref a_D_from, .ref a_D_upTo, .ref a_D_firsts, .ref a_D_parts, .ref a_D_variables, .ref a_D_order, .ref a_D_pile, .ref a_D_next])), (a_D_types, .inl (cI, 1000, .inl D_types)), (a_D_sortOf, .inl (cI, 1000, .inl D_sortOf)), (a_D_makes, .inl (cI, 1500, .inl D_makes)), (a_D_starts, .inl (cI, 1501, .inl D_starts)), (a_D_told, .inl (cI, 30000, .inl D_told)), (a_D_row, .inl (cI, 59, .inl D_row)), (a_D_many, .inl (cB, 360000, .inl D_many)), (a_D_ways, .inl (cB, 1890100, .inl o.2)), (a_D_base, .inl (cI, 100, .inl D_base)), (a_D_next, .inl (cI, 12000, .inl D_next))] H → va_D A [(a_D, .inr (6, [.int D_symbols, .ref a_D_types, .ref a_D_sortOf, .int D_sorts, .int D_rules, .int D_isOpen, .ref a_D_makes, .ref a_D_starts, .ref a_D_told, .int D_all, .ref a_D_row, .int D_length, .ref a_D_many, .ref a_D_ways, .ref a_D_base, .int D_isFound, .int D_foundLimit, .int D_nodes, .ref a_D_ruleOf, .ref a_D_sortAt, .ref a_D_from, .ref a_D_upTo, .ref a_D_firsts, .ref a_D_parts, .ref a_D_variables, .ref a_D_order, .ref a_D_pile, .ref a_D_next])), (a_D_types, .inl (cI, 1000, .inl D_types)), (a_D_sortOf, .inl (cI, 1000, .inl D_sortOf)), (a_D_makes, .inl (cI, 1500, .inl D_makes)), (a_D_starts, .inl (cI, 1501, .inl D_starts)), (a_D_told, .inl (cI, 30000, .inl D_told)), (a_D_row, .inl (cI, 59, .inl D_row)), (a_D_many, .inl (cB, 360000, .inl D_many)), (a_D_ways, .inl (cB, 1890100, .inl o.2)), (a_D_base, .inl (cI, 100, .inl D_base)), (a_D_next, .inl (cI, 12000, .inl D_next))] → va_S A s.heap H locs → lv_has ls 9 [(7, .int o.1), (6, .int v6), (5, .int v5), (0, .ref a_D), (1, .int v1), (2, .int v2), (3, .int v3)] → W p l e ({ frames := 2, cells := 0, slots := 0, locals := 52 }) s m args below meth c H locs 0 0 Q (F0 m 130 ls [])) → W p l e ({ frames := 2, cells := 0, slots := 0, locals := 52 }) s m args below meth c H locs 0 0 Q (F0 m 99 ls []) := by
  intro k
  induction k with
  | zero =>
    intro v7 D_ways o H locs ls hf
    exact absurd hf (by simp [f_Ref_stretch_L99])
  | succ k ih =>
    intro v7 D_ways o H locs ls hf hP hD hS hl kk
    rw [f_Ref_stretch_L99] at hf
    refine lv_iload hx hb d_Ref_stretch_99 (lv_at hl 0 rfl) ?_
    refine lv_iload hx hb d_Ref_stretch_101 (lv_at hl 1 rfl) ?_
    refine lv_icmp_gt (tgt := 130) hx hb d_Ref_stretch_103 (by decide +kernel) (fun c1 => ?_) (fun c1 => ?_)
    · have hf := x_pos c1 hf
      cases hf
      exact kk _ _ ls hP hD hS (lv_sub hl [0, 1, 2, 3, 4, 5, 6] rfl)
    · have hf := x_neg c1 hf
      refine lv_iload hx hb d_Ref_stretch_106 (lv_at hl 0 rfl) ?_
      refine lv_iload_n hx hb d_Ref_stretch_108 rfl (lv_at hl 5 rfl) ?_
      refine lv_iload_n hx hb d_Ref_stretch_109 rfl (lv_at hl 4 rfl) ?_
      refine lv_isub hx hb d_Ref_stretch_110 ?_
      refine lv_icmp_gt (tgt := 130) hx hb d_Ref_stretch_111 (by decide +kernel) (fun c2 => ?_) (fun c2 => ?_)
      · have hf := x_pos c2 hf
        cases hf
        exact kk _ _ ls hP hD hS (lv_sub hl [0, 1, 2, 3, 4, 5, 6] rfl)
      · have hf := x_neg c2 hf
        refine lv_aload_n hx hb d_Ref_stretch_114 rfl (lv_at hl 3 rfl) ?_
        refine lv_iload hx hb d_Ref_stretch_115 (lv_at hl 2 rfl) ?_
        refine lv_iload hx hb d_Ref_stretch_117 (lv_at hl 0 rfl) ?_
        refine lv_iload_n hx hb d_Ref_stretch_119 rfl (lv_at hl 4 rfl) ?_
        refine lv_iload_n hx hb d_Ref_stretch_120 rfl (lv_at hl 5 rfl) ?_
        obtain ⟨x3, hx3, hf⟩ := x_bd hf
        refine x_wrvV (As := [.int v5, .int v7, .int v1, .int v2]) (rest := []) (wc := [(a_D, .inr (6, [.int D_symbols, .ref a_D_types, .ref a_D_sortOf, .int D_sorts, .int D_rules, .int D_isOpen, .ref a_D_makes, .ref a_D_starts, .ref a_D_told, .int D_all, .ref a_D_row, .int D_length, .ref a_D_many, .ref a_D_ways, .ref a_D_base, .int D_isFound, .int D_foundLimit, .int D_nodes, .ref a_D_ruleOf, .ref a_D_sortAt, .ref a_D_from, .ref a_D_upTo, .ref a_D_firsts, .ref a_D_parts, .ref a_D_variables, .ref a_D_order, .ref a_D_pile, .ref a_D_next])), (a_D_types, .inl (cI, 1000, .inl D_types)), (a_D_sortOf, .inl (cI, 1000, .inl D_sortOf)), (a_D_starts, .inl (cI, 1501, .inl D_starts)), (a_D_told, .inl (cI, 30000, .inl D_told)), (a_D_row, .inl (cI, 59, .inl D_row)), (a_D_many, .inl (cB, 360000, .inl D_many)), (a_D_ways, .inl (cB, 1890100, .inl D_ways))]) (wr := [(a_D_makes, .inl (cI, 1500, .inl D_makes)), (a_D_base, .inl (cI, 100, .inl D_base)), (a_D_next, .inl (cI, 12000, .inl D_next))]) (w1 := [(a_D, .inr (6, [.int D_symbols, .ref a_D_types, .ref a_D_sortOf, .int D_sorts, .int D_rules, .int D_isOpen, .ref a_D_makes, .ref a_D_starts, .ref a_D_told, .int D_all, .ref a_D_row, .int D_length, .ref a_D_many, .ref a_D_ways, .ref a_D_base, .int D_isFound, .int D_foundLimit, .int D_nodes, .ref a_D_ruleOf, .ref a_D_sortAt, .ref a_D_from, .ref a_D_upTo, .ref a_D_firsts, .ref a_D_parts, .ref a_D_variables, .ref a_D_order, .ref a_D_pile, .ref a_D_next])), (a_D_types, .inl (cI, 1000, .inl D_types)), (a_D_sortOf, .inl (cI, 1000, .inl D_sortOf)), (a_D_starts, .inl (cI, 1501, .inl D_starts)), (a_D_told, .inl (cI, 30000, .inl D_told)), (a_D_row, .inl (cI, 59, .inl D_row)), (a_D_many, .inl (cB, 360000, .inl D_many)), (a_D_ways, .inl (cB, 1890100, .inl x3))]) (wf := [(a_D, .inr (6, [.int D_symbols, .ref a_D_types, .ref a_D_sortOf, .int D_sorts, .int D_rules, .int D_isOpen, .ref a_D_makes, .ref a_D_starts, .ref a_D_told, .int D_all, .ref a_D_row, .int D_length, .ref a_D_many, .ref a_D_ways, .ref a_D_base, .int D_isFound, .int D_foundLimit, .int D_nodes, .ref a_D_ruleOf, .ref a_D_sortAt, .ref a_D_from, .ref a_D_upTo, .ref a_D_firsts, .ref a_D_parts, .ref a_D_variables, .ref a_D_order, .ref a_D_pile, .ref a_D_next])), (a_D_types, .inl (cI, 1000, .inl D_types)), (a_D_sortOf, .inl (cI, 1000, .inl D_sortOf)), (a_D_makes, .inl (cI, 1500, .inl D_makes)), (a_D_starts, .inl (cI, 1501, .inl D_starts)), (a_D_told, .inl (cI, 30000, .inl D_told)), (a_D_row, .inl (cI, 59, .inl D_row)), (a_D_many, .inl (cB, 360000, .inl D_many)), (a_D_ways, .inl (cB, 1890100, .inl x3)), (a_D_base, .inl (cI, 100, .inl D_base)), (a_D_next, .inl (cI, 12000, .inl D_next))]) ⟨hx, hb, hml, hown, hts⟩ (c_Ref_step l dC dI cI cJ cB a_D a_D_types a_D_sortOf a_D_makes a_D_starts a_D_told a_D_row a_D_many a_D_ways a_D_base a_D_ruleOf a_D_sortAt a_D_from a_D_upTo a_D_firsts a_D_parts a_D_variables a_D_order a_D_pile a_D_next D_symbols D_sorts D_rules D_isOpen D_all D_length D_isFound D_foundLimit D_nodes D_types D_sortOf D_starts D_told D_row D_many D_ways v5 v7 v1 v2 H.size n x3 hx3) (cwV 4 hts (x_gV m_617 m_618 m_34 m_48 m_619) rfl rfl rfl hd_Ref_step ⟨Nat.le_of_ble_eq_true rfl, Nat.le_of_ble_eq_true rfl⟩) hK hP hD hS hA [0, 1, 2, 4, 5, 6, 7, 8] [3, 9, 10] [3, 4, 5, 0, 6, 7, 8, 9, 10, 1, 2] rfl rfl rfl (by decide +kernel) (by decide +kernel) (by decide +kernel) (by decide +kernel) (ci := 6) (q0 := 0) rfl rfl rfl rfl hl.1 rfl (Nat.le_of_ble_eq_true rfl) d_Ref_stretch_121 ⟨Nat.le_of_ble_eq_true rfl, Nat.le_of_ble_eq_true rfl⟩ (fun H locs hP hD hS => ?_)
        refine lv_iinc (v := (v7 + (1 : Int32))) (lv' := [(7, .int (v7 + (1 : Int32))), (6, .int v6), (5, .int v5), (0, .ref a_D), (1, .int v1), (2, .int v2), (3, .int v3)]) hx hb d_Ref_stretch_124 hl (k := 0) rfl rfl (by decide +kernel) rfl (fun ls hl => ?_)
        refine lv_goto (tgt := 99) hx hb d_Ref_stretch_127 (by decide +kernel) ?_
        exact ih (v7 + (1 : Int32)) x3 o _ _ ls hf hP hD hS (lv_sub hl [0, 1, 2, 3, 4, 5, 6] rfl) kk
set_option maxHeartbeats 4000000 in
set_option maxRecDepth 100000 in
theorem w_Ref_stretch_L73 {p : Program} {l : Launch} {e : Env} {s : State} {m : MethodId} {args : Array Value} {below : List Frame} {meth : Method} {c : Code} {dC : Nat → ClassId} {dI : Nat → Nat → Nat} {cI cJ cB : ClassId} {a_D a_D_types a_D_sortOf a_D_makes a_D_starts a_D_told a_D_row a_D_many a_D_ways a_D_base a_D_ruleOf a_D_sortAt a_D_from a_D_upTo a_D_firsts a_D_parts a_D_variables a_D_order a_D_pile a_D_next : Nat} {A : Nat → Prop} {Q : State → Prop} (n : Nat) (v1 : Int32) (v2 : Int32) (v3 : Int32) (D_symbols : Int32) (D_sorts : Int32) (D_rules : Int32) (D_isOpen : Int32) (D_all : Int32) (D_length : Int32) (D_isFound : Int32) (D_foundLimit : Int32) (D_nodes : Int32) (D_types : Nat → Int32) (D_sortOf : Nat → Int32) (D_makes : Nat → Int32) (D_starts : Nat → Int32) (D_told : Nat → Int32) (D_row : Nat → Int32) (D_many : Nat → Int32) (D_next : Nat → Int32) (hx : p.tables.exec = Jvm.exec) (hb : c.code = b_Ref_stretch) (hml : c.maxLocals = 9) (hown : s.vm.findClass "SyntaxTreesModel" = some m.cls) (hts : ∀ w ∈ w_Ref_stretch, w.before args s = true) (hK : x_K (dC, dI) [(cI, .int), (cJ, .long), (cB, .byte)] s) (hA : ∀ q, s.heap.size ≤ q → A q) : ∀ (k : Nat) (v5 : Int32) (D_ways : Nat → Int32) (D_base : Nat → Int32) (o : Int32 × (Nat → Int32) × (Nat → Int32)) (H : Heap) (locs : List Loc) (ls : Array Slot), f_Ref_stretch_L73 n v1 v2 v3 D_length D_types D_sortOf D_makes D_starts D_told D_row D_many k v5 D_ways D_base = some o → va_P (dC, dI) vwCl [(a_D, .inr (6, [.int D_symbols, .ref a_D_types, .ref a_D_sortOf, .int D_sorts, .int D_rules, .int D_isOpen, .ref a_D_makes, .ref a_D_starts, .ref a_D_told, .int D_all, .ref a_D_row, .int D_length, .ref a_D_many, .ref a_D_ways, .ref a_D_base, .int D_isFound, .int D_foundLimit, .int D_nodes, .ref a_D_ruleOf, .ref a_D_sortAt, .ref a_D_from, .ref a_D_upTo, .ref a_D_firsts, .ref a_D_parts, .ref a_D_variables, .ref a_D_order, .ref a_D_pile, .ref a_D_next])), (a_D_types, .inl (cI, 1000, .inl D_types)), (a_D_sortOf, .inl (cI, 1000, .inl D_sortOf)), (a_D_makes, .inl (cI, 1500, .inl D_makes)), (a_D_starts, .inl (cI, 1501, .inl D_starts)), (a_D_told, .inl (cI, 30000, .inl D_told)), (a_D_row, .inl (cI, 59, .inl D_row)), (a_D_many, .inl (cB, 360000, .inl D_many)), (a_D_ways, .inl (cB, 1890100, .inl D_ways)), (a_D_base, .inl (cI, 100, .inl D_base)), (a_D_next, .inl (cI, 12000, .inl D_next))] H → va_D A [(a_D, .inr (6, [.int D_symbols, .ref a_D_types, .ref a_D_sortOf, .int D_sorts, .int D_rules, .int D_isOpen, .ref a_D_makes, .ref a_D_starts, .ref a_D_told, .int D_all, .ref a_D_row, .int D_length, .ref a_D_many, .ref a_D_ways, .ref a_D_base, .int D_isFound, .int D_foundLimit, .int D_nodes, .ref a_D_ruleOf, .ref a_D_sortAt, .ref a_D_from, .ref a_D_upTo, .ref a_D_firsts, .ref a_D_parts, .ref a_D_variables, .ref a_D_order, .ref a_D_pile, .ref a_D_next])), (a_D_types, .inl (cI, 1000, .inl D_types)), (a_D_sortOf, .inl (cI, 1000, .inl D_sortOf)), (a_D_makes, .inl (cI, 1500, .inl D_makes)), (a_D_starts, .inl (cI, 1501, .inl D_starts)), (a_D_told, .inl (cI, 30000, .inl D_told)), (a_D_row, .inl (cI, 59, .inl D_row)), (a_D_many, .inl (cB, 360000, .inl D_many)), (a_D_ways, .inl (cB, 1890100, .inl D_ways)), (a_D_base, .inl (cI, 100, .inl D_base)), (a_D_next, .inl (cI, 12000, .inl D_next))] → va_S A s.heap H locs → lv_has ls 9 [(5, .int v5), (0, .ref a_D), (1, .int v1), (2, .int v2), (3, .int v3)] → (∀ (H : Heap) (locs : List Loc) (ls : Array Slot), va_P (dC, dI) vwCl [(a_D, .inr (6, [.int D_symbols, .ref a_D_types, .ref a_D_sortOf, .int D_sorts, .int D_rules, .int D_isOpen, .ref a_D_makes, .ref a_D_starts, .ref a_D_told, .int D_all, .ref a_D_row, .int D_length, .ref a_D_many, .ref a_D_ways, .ref a_D_base, .int D_isFound, .int D_foundLimit, .int D_nodes, .ref a_D_ruleOf, .ref a_D_sortAt, .ref a_D_from, .ref a_D_upTo, .ref a_D_firsts, .ref a_D_parts, .ref a_D_variables, .ref a_D_order, .ref a_D_pile, .ref a_D_next])), (a_D_types, .inl (cI, 1000, .inl D_types)), (a_D_sortOf, .inl (cI, 1000, .inl D_sortOf)), (a_D_makes, .inl (cI, 1500, .inl D_makes)), (a_D_starts, .inl (cI, 1501, .inl D_starts)), (a_D_told, .inl (cI, 30000, .inl D_told)), (a_D_row, .inl (cI, 59, .inl D_row)), (a_D_many, .inl (cB, 360000, .inl D_many)), (a_D_ways, .inl (cB, 1890100, .inl o.2.1)), (a_D_base, .inl (cI, 100, .inl o.2.2)), (a_D_next, .inl (cI, 12000, .inl D_next))] H → va_D A [(a_D, .inr (6, [.int D_symbols, .ref a_D_types, .ref a_D_sortOf, .int D_sorts, .int D_rules, .int D_isOpen, .ref a_D_makes, .ref a_D_starts, .ref a_D_told, .int D_all, .ref a_D_row, .int D_length, .ref a_D_many, .ref a_D_ways, .ref a_D_base, .int D_isFound, .int D_foundLimit, .int D_nodes, .ref a_D_ruleOf, .ref a_D_sortAt, .ref a_D_from, .ref a_D_upTo, .ref a_D_firsts, .ref a_D_parts, .ref a_D_variables, .ref a_D_order, .ref a_D_pile, .ref a_D_next])), (a_D_types, .inl (cI, 1000, .inl D_types)), (a_D_sortOf, .inl (cI, 1000, .inl D_sortOf)), (a_D_makes, .inl (cI, 1500, .inl D_makes)), (a_D_starts, .inl (cI, 1501, .inl D_starts)), (a_D_told, .inl (cI, 30000, .inl D_told)), (a_D_row, .inl (cI, 59, .inl D_row)), (a_D_many, .inl (cB, 360000, .inl D_many)), (a_D_ways, .inl (cB, 1890100, .inl o.2.1)), (a_D_base, .inl (cI, 100, .inl o.2.2)), (a_D_next, .inl (cI, 12000, .inl D_next))] → va_S A s.heap H locs → lv_has ls 9 [(5, .int o.1), (0, .ref a_D), (1, .int v1), (2, .int v2), (3, .int v3)] → W p l e ({ frames := 2, cells := 0, slots := 0, locals := 52 }) s m args below meth c H locs 0 0 Q (F0 m 230 ls [])) → W p l e ({ frames := 2, cells := 0, slots := 0, locals := 52 }) s m args below meth c H locs 0 0 Q (F0 m 73 ls []) := by
  intro k
  induction k with
  | zero =>
    intro v5 D_ways D_base o H locs ls hf
    exact absurd hf (by simp [f_Ref_stretch_L73])
  | succ k ih =>
    intro v5 D_ways D_base o H locs ls hf hP hD hS hl kk
    rw [f_Ref_stretch_L73] at hf
    refine lv_iload hx hb d_Ref_stretch_73 (lv_at hl 0 rfl) ?_
    refine lv_iload_n hx hb d_Ref_stretch_75 rfl (lv_at hl 4 rfl) ?_
    refine lv_icmp_ge (tgt := 230) hx hb d_Ref_stretch_76 (by decide +kernel) (fun c1 => ?_) (fun c1 => ?_)
    · have hf := x_pos c1 hf
      cases hf
      exact kk _ _ ls hP hD hS (lv_sub hl [0, 1, 2, 3, 4] rfl)
    · have hf := x_neg c1 hf
      refine lv_aload_n hx hb d_Ref_stretch_79 rfl (lv_at hl 1 rfl) ?_
      refine lv_iload hx hb d_Ref_stretch_80 (lv_at hl 0 rfl) ?_
      obtain ⟨x2, hx2, hf⟩ := x_bd hf
      refine x_rdiV (As := [.int v5]) (rest := []) (wc := [(a_D, .inr (6, [.int D_symbols, .ref a_D_types, .ref a_D_sortOf, .int D_sorts, .int D_rules, .int D_isOpen, .ref a_D_makes, .ref a_D_starts, .ref a_D_told, .int D_all, .ref a_D_row, .int D_length, .ref a_D_many, .ref a_D_ways, .ref a_D_base, .int D_isFound, .int D_foundLimit, .int D_nodes, .ref a_D_ruleOf, .ref a_D_sortAt, .ref a_D_from, .ref a_D_upTo, .ref a_D_firsts, .ref a_D_parts, .ref a_D_variables, .ref a_D_order, .ref a_D_pile, .ref a_D_next])), (a_D_starts, .inl (cI, 1501, .inl D_starts))]) ⟨hx, hb, hml, hown, hts⟩ (c_Ref_lengthOf l dC dI cI cJ cB a_D a_D_types a_D_sortOf a_D_makes a_D_starts a_D_told a_D_row a_D_many a_D_ways a_D_base a_D_ruleOf a_D_sortAt a_D_from a_D_upTo a_D_firsts a_D_parts a_D_variables a_D_order a_D_pile a_D_next D_symbols D_sorts D_rules D_isOpen D_all D_length D_isFound D_foundLimit D_nodes D_starts v5 n x2 hx2) (cwV 1 hts (x_gV m_611 m_612 m_32 m_48 m_613) rfl rfl rfl hd_Ref_lengthOf ⟨Nat.le_of_ble_eq_true rfl, Nat.le_of_ble_eq_true rfl⟩) hK hP [0, 4] rfl (ci := 6) (q0 := 0) rfl rfl rfl rfl hl.1 rfl (Nat.le_of_ble_eq_true rfl) d_Ref_stretch_82 ⟨Nat.le_of_ble_eq_true rfl, Nat.le_of_ble_eq_true rfl⟩ ?_
      refine lv_istore (lv' := [(6, .int x2), (5, .int v5), (0, .ref a_D), (1, .int v1), (2, .int v2), (3, .int v3)]) hx hb d_Ref_stretch_85 hl (by decide +kernel) rfl (fun ls hl => ?_)
      refine lv_iload hx hb d_Ref_stretch_87 (lv_at hl 0 rfl) ?_
      refine lv_aload_n hx hb d_Ref_stretch_89 rfl (lv_at hl 2 rfl) ?_
      refine va_get (D := (dC, dI)) (ci := 6) (v := .int D_length) (C := "SyntaxTreesModel") (T := F_Ref) (N := 28) hx hb hts (fun w h => List.mem_cons_of_mem _ (in_Ref w h)) hown hK.1 hP 0 rfl rfl 11 (by decide +kernel) (hts _ (List.mem_cons_of_mem _ m_518)) (fun _ h9 => h9) rfl d_Ref_stretch_90 ?_
      refine lv_icmp_gt (tgt := 224) hx hb d_Ref_stretch_93 (by decide +kernel) (fun c3 => ?_) (fun c3 => ?_)
      · have hf := x_pos c3 hf
        refine lv_iinc (v := (v5 + (1 : Int32))) (lv' := [(5, .int (v5 + (1 : Int32))), (6, .int x2), (0, .ref a_D), (1, .int v1), (2, .int v2), (3, .int v3)]) hx hb d_Ref_stretch_224 hl (k := 1) rfl rfl (by decide +kernel) rfl (fun ls hl => ?_)
        refine lv_goto (tgt := 73) hx hb d_Ref_stretch_227 (by decide +kernel) ?_
        exact ih (v5 + (1 : Int32)) D_ways D_base o _ _ ls hf hP hD hS (lv_sub hl [0, 2, 3, 4, 5] rfl) kk
      · have hf := x_neg c3 hf
        refine lv_iconst (v := (1 : Int32)) hx hb d_Ref_stretch_96 (by decide +kernel) ?_
        refine lv_istore (lv' := [(7, .int (1 : Int32)), (6, .int x2), (5, .int v5), (0, .ref a_D), (1, .int v1), (2, .int v2), (3, .int v3)]) hx hb d_Ref_stretch_97 hl (by decide +kernel) rfl (fun ls hl => ?_)
        obtain ⟨x4, hx4, hf⟩ := x_bd hf
        refine w_Ref_stretch_L99 n x2 v5 v1 v2 v3 D_symbols D_sorts D_rules D_isOpen D_all D_length D_isFound D_foundLimit D_nodes D_types D_sortOf D_makes D_starts D_told D_row D_many D_base D_next hx hb hml hown hts hK hA n (1 : Int32) D_ways x4 _ _ ls hx4 hP hD hS (lv_sub hl [0, 1, 2, 3, 4, 5, 6] rfl) (fun H locs ls hP hD hS hl => ?_)
        refine lv_iload hx hb d_Ref_stretch_130 (lv_at hl 1 rfl) ?_
        refine lv_iconst (v := (1 : Int32)) hx hb d_Ref_stretch_132 (by decide +kernel) ?_
        refine lv_icmp_ne (tgt := 161) hx hb d_Ref_stretch_133 (by decide +kernel) (fun c5 => ?_) (fun c5 => ?_)
        · have hf := x_neg c5 hf
          refine lv_iconst (v := (0 : Int32)) hx hb d_Ref_stretch_161 (by decide +kernel) ?_
          refine lv_istore (lv' := [(7, .int (0 : Int32)), (6, .int x2), (5, .int v5), (0, .ref a_D), (1, .int v1), (2, .int v2), (3, .int v3)]) hx hb d_Ref_stretch_162 hl (by decide +kernel) rfl (fun ls hl => ?_)
          refine lv_iload hx hb d_Ref_stretch_164 (lv_at hl 0 rfl) ?_
          refine lv_if_ne (tgt := 224) hx hb d_Ref_stretch_166 (by decide +kernel) (fun c6 => ?_) (fun c6 => ?_)
          · have hf := x_neg c6 hf
            refine lv_iinc (v := (v5 + (1 : Int32))) (lv' := [(5, .int (v5 + (1 : Int32))), (7, .int (0 : Int32)), (6, .int x2), (0, .ref a_D), (1, .int v1), (2, .int v2), (3, .int v3)]) hx hb d_Ref_stretch_224 hl (k := 2) rfl rfl (by decide +kernel) rfl (fun ls hl => ?_)
            refine lv_goto (tgt := 73) hx hb d_Ref_stretch_227 (by decide +kernel) ?_
            exact ih (v5 + (1 : Int32)) x4.2 D_base o _ _ ls hf hP hD hS (lv_sub hl [0, 3, 4, 5, 6] rfl) kk
          · have hf := x_pos c6 hf
            refine lv_aload_n hx hb d_Ref_stretch_169 rfl (lv_at hl 3 rfl) ?_
            refine va_get (D := (dC, dI)) (ci := 6) (v := .ref a_D_sortOf) (C := "SyntaxTreesModel") (T := F_Ref) (N := 28) hx hb hts (fun w h => List.mem_cons_of_mem _ (in_Ref w h)) hown hK.1 hP 0 rfl rfl 2 (by decide +kernel) (hts _ (List.mem_cons_of_mem _ m_509)) (fun _ h9 => h9) rfl d_Ref_stretch_170 ?_
            refine lv_aload_n hx hb d_Ref_stretch_173 rfl (lv_at hl 3 rfl) ?_
            refine va_get (D := (dC, dI)) (ci := 6) (v := .ref a_D_makes) (C := "SyntaxTreesModel") (T := F_Ref) (N := 28) hx hb hts (fun w h => List.mem_cons_of_mem _ (in_Ref w h)) hown hK.1 hP 0 rfl rfl 6 (by decide +kernel) (hts _ (List.mem_cons_of_mem _ m_513)) (fun _ h9 => h9) rfl d_Ref_stretch_174 ?_
            refine lv_iload hx hb d_Ref_stretch_177 (lv_at hl 2 rfl) ?_
            obtain ⟨h7, hf⟩ := x_gd hf
            refine va_iald hx hb hK.1 hP 3 0 rfl rfl h7 d_Ref_stretch_179 ?_
            obtain ⟨h8, hf⟩ := x_gd hf
            refine va_iald hx hb hK.1 hP 2 0 rfl rfl h8 d_Ref_stretch_180 ?_
            refine lv_istore (lv' := [(8, .int (D_sortOf (D_makes v5.toNatClampNeg).toNatClampNeg)), (7, .int (0 : Int32)), (6, .int x2), (5, .int v5), (0, .ref a_D), (1, .int v1), (2, .int v2), (3, .int v3)]) hx hb d_Ref_stretch_181 hl (by decide +kernel) rfl (fun ls hl => ?_)
            refine lv_aload_n hx hb d_Ref_stretch_183 rfl (lv_at hl 4 rfl) ?_
            refine va_get (D := (dC, dI)) (ci := 6) (v := .ref a_D_base) (C := "SyntaxTreesModel") (T := F_Ref) (N := 28) hx hb hts (fun w h => List.mem_cons_of_mem _ (in_Ref w h)) hown hK.1 hP 0 rfl rfl 14 (by decide +kernel) (hts _ (List.mem_cons_of_mem _ m_521)) (fun _ h9 => h9) rfl d_Ref_stretch_184 ?_
            refine lv_iload hx hb d_Ref_stretch_187 (lv_at hl 0 rfl) ?_
            refine lv_aload_n hx hb d_Ref_stretch_189 rfl (lv_at hl 4 rfl) ?_
            refine va_get (D := (dC, dI)) (ci := 6) (v := .ref a_D_base) (C := "SyntaxTreesModel") (T := F_Ref) (N := 28) hx hb hts (fun w h => List.mem_cons_of_mem _ (in_Ref w h)) hown hK.1 hP 0 rfl rfl 14 (by decide +kernel) (hts _ (List.mem_cons_of_mem _ m_521)) (fun _ h9 => h9) rfl d_Ref_stretch_190 ?_
            refine lv_iload hx hb d_Ref_stretch_193 (lv_at hl 0 rfl) ?_
            obtain ⟨h9, hf⟩ := x_gd hf
            refine va_iald hx hb hK.1 hP 9 0 rfl rfl h9 d_Ref_stretch_195 ?_
            refine lv_aload_n hx hb d_Ref_stretch_196 rfl (lv_at hl 4 rfl) ?_
            refine va_get (D := (dC, dI)) (ci := 6) (v := .ref a_D_ways) (C := "SyntaxTreesModel") (T := F_Ref) (N := 28) hx hb hts (fun w h => List.mem_cons_of_mem _ (in_Ref w h)) hown hK.1 hP 0 rfl rfl 13 (by decide +kernel) (hts _ (List.mem_cons_of_mem _ m_520)) (fun _ h9 => h9) rfl d_Ref_stretch_197 ?_
            refine lv_bipush (v := (60 : Int32)) hx hb d_Ref_stretch_200 (by decide +kernel) ?_
            refine lv_aload_n hx hb d_Ref_stretch_202 rfl (lv_at hl 4 rfl) ?_
            refine va_get (D := (dC, dI)) (ci := 6) (v := .ref a_D_starts) (C := "SyntaxTreesModel") (T := F_Ref) (N := 28) hx hb hts (fun w h => List.mem_cons_of_mem _ (in_Ref w h)) hown hK.1 hP 0 rfl rfl 7 (by decide +kernel) (hts _ (List.mem_cons_of_mem _ m_514)) (fun _ h9 => h9) rfl d_Ref_stretch_203 ?_
            refine lv_iload hx hb d_Ref_stretch_206 (lv_at hl 3 rfl) ?_
            obtain ⟨h10, hf⟩ := x_gd hf
            refine va_iald hx hb hK.1 hP 4 0 rfl rfl h10 d_Ref_stretch_208 ?_
            refine lv_iload hx hb d_Ref_stretch_209 (lv_at hl 3 rfl) ?_
            refine lv_iadd hx hb d_Ref_stretch_211 ?_
            refine lv_iload hx hb d_Ref_stretch_212 (lv_at hl 2 rfl) ?_
            refine lv_iadd hx hb d_Ref_stretch_214 ?_
            refine lv_imul hx hb d_Ref_stretch_215 ?_
            refine lv_iload_n hx hb d_Ref_stretch_216 rfl (lv_at hl 6 rfl) ?_
            refine lv_iadd hx hb d_Ref_stretch_217 ?_
            obtain ⟨h11, hf⟩ := x_gd hf
            refine va_bald hx hb hK.1 hP 8 2 rfl rfl h11 d_Ref_stretch_218 ?_
            refine lv_iadd hx hb d_Ref_stretch_219 ?_
            obtain ⟨x12, hx12, hf⟩ := x_bd hf
            refine x_rdiS (As := [.int ((D_base (D_sortOf (D_makes v5.toNatClampNeg).toNatClampNeg).toNatClampNeg) + (x4.2 (((60 : Int32) * (((D_starts v5.toNatClampNeg) + v5) + x2)) + v2).toNatClampNeg))]) (rest := [.int (D_sortOf (D_makes v5.toNatClampNeg).toNatClampNeg), .ref a_D_base]) (wc := []) ⟨hx, hb, hml, hown, hts⟩ (c_Ref_capped l dC dI cI cJ cB ((D_base (D_sortOf (D_makes v5.toNatClampNeg).toNatClampNeg).toNatClampNeg) + (x4.2 (((60 : Int32) * (((D_starts v5.toNatClampNeg) + v5) + x2)) + v2).toNatClampNeg)) n x12 hx12) (cwS 1 hts (x_gS m_623 m_624 m_48 m_625) rfl rfl rfl hd_Ref_capped ⟨Nat.le_of_ble_eq_true rfl, Nat.le_of_ble_eq_true rfl⟩) hK hP [] rfl rfl hl.1 rfl (Nat.le_of_ble_eq_true rfl) d_Ref_stretch_220 ⟨Nat.le_of_ble_eq_true rfl, Nat.le_of_ble_eq_true rfl⟩ ?_
            obtain ⟨h13, hf⟩ := x_gd hf
            refine x_iast (w1 := [(a_D, .inr (6, [.int D_symbols, .ref a_D_types, .ref a_D_sortOf, .int D_sorts, .int D_rules, .int D_isOpen, .ref a_D_makes, .ref a_D_starts, .ref a_D_told, .int D_all, .ref a_D_row, .int D_length, .ref a_D_many, .ref a_D_ways, .ref a_D_base, .int D_isFound, .int D_foundLimit, .int D_nodes, .ref a_D_ruleOf, .ref a_D_sortAt, .ref a_D_from, .ref a_D_upTo, .ref a_D_firsts, .ref a_D_parts, .ref a_D_variables, .ref a_D_order, .ref a_D_pile, .ref a_D_next])), (a_D_types, .inl (cI, 1000, .inl D_types)), (a_D_sortOf, .inl (cI, 1000, .inl D_sortOf)), (a_D_makes, .inl (cI, 1500, .inl D_makes)), (a_D_starts, .inl (cI, 1501, .inl D_starts)), (a_D_told, .inl (cI, 30000, .inl D_told)), (a_D_row, .inl (cI, 59, .inl D_row)), (a_D_many, .inl (cB, 360000, .inl D_many)), (a_D_ways, .inl (cB, 1890100, .inl x4.2)), (a_D_base, .inl (cI, 100, .inl (upd D_base (D_sortOf (D_makes v5.toNatClampNeg).toNatClampNeg).toNatClampNeg x12))), (a_D_next, .inl (cI, 12000, .inl D_next))]) hx hb hK.1 hP hD hS 9 0 rfl rfl h13 d_Ref_stretch_223 rfl (fun H locs hP hD hS => ?_)
            refine lv_iinc (v := (v5 + (1 : Int32))) (lv' := [(5, .int (v5 + (1 : Int32))), (8, .int (D_sortOf (D_makes v5.toNatClampNeg).toNatClampNeg)), (7, .int (0 : Int32)), (6, .int x2), (0, .ref a_D), (1, .int v1), (2, .int v2), (3, .int v3)]) hx hb d_Ref_stretch_224 hl (k := 3) rfl rfl (by decide +kernel) rfl (fun ls hl => ?_)
            refine lv_goto (tgt := 73) hx hb d_Ref_stretch_227 (by decide +kernel) ?_
            exact ih (v5 + (1 : Int32)) x4.2 (upd D_base (D_sortOf (D_makes v5.toNatClampNeg).toNatClampNeg).toNatClampNeg x12) o _ _ ls hf hP hD hS (lv_sub hl [0, 4, 5, 6, 7] rfl) kk
        · have hf := x_pos c5 hf
          refine lv_aload_n hx hb d_Ref_stretch_136 rfl (lv_at hl 3 rfl) ?_
          refine va_get (D := (dC, dI)) (ci := 6) (v := .ref a_D_types) (C := "SyntaxTreesModel") (T := F_Ref) (N := 28) hx hb hts (fun w h => List.mem_cons_of_mem _ (in_Ref w h)) hown hK.1 hP 0 rfl rfl 1 (by decide +kernel) (hts _ (List.mem_cons_of_mem _ m_508)) (fun _ h9 => h9) rfl d_Ref_stretch_137 ?_
          refine lv_aload_n hx hb d_Ref_stretch_140 rfl (lv_at hl 3 rfl) ?_
          refine va_get (D := (dC, dI)) (ci := 6) (v := .ref a_D_told) (C := "SyntaxTreesModel") (T := F_Ref) (N := 28) hx hb hts (fun w h => List.mem_cons_of_mem _ (in_Ref w h)) hown hK.1 hP 0 rfl rfl 8 (by decide +kernel) (hts _ (List.mem_cons_of_mem _ m_515)) (fun _ h9 => h9) rfl d_Ref_stretch_141 ?_
          refine lv_aload_n hx hb d_Ref_stretch_144 rfl (lv_at hl 3 rfl) ?_
          refine va_get (D := (dC, dI)) (ci := 6) (v := .ref a_D_starts) (C := "SyntaxTreesModel") (T := F_Ref) (N := 28) hx hb hts (fun w h => List.mem_cons_of_mem _ (in_Ref w h)) hown hK.1 hP 0 rfl rfl 7 (by decide +kernel) (hts _ (List.mem_cons_of_mem _ m_514)) (fun _ h9 => h9) rfl d_Ref_stretch_145 ?_
          refine lv_iload hx hb d_Ref_stretch_148 (lv_at hl 2 rfl) ?_
          obtain ⟨h14, hf⟩ := x_gd hf
          refine va_iald hx hb hK.1 hP 4 0 rfl rfl h14 d_Ref_stretch_150 ?_
          obtain ⟨h15, hf⟩ := x_gd hf
          refine va_iald hx hb hK.1 hP 5 0 rfl rfl h15 d_Ref_stretch_151 ?_
          obtain ⟨h16, hf⟩ := x_gd hf
          refine va_iald hx hb hK.1 hP 1 0 rfl rfl h16 d_Ref_stretch_152 ?_
          refine lv_iconst (v := (-1 : Int32)) hx hb d_Ref_stretch_153 (by decide +kernel) ?_
          refine lv_icmp_eq (tgt := 161) hx hb d_Ref_stretch_154 (by decide +kernel) (fun c17 => ?_) (fun c17 => ?_)
          · have hf := x_pos c17 hf
            refine lv_iconst (v := (0 : Int32)) hx hb d_Ref_stretch_161 (by decide +kernel) ?_
            refine lv_istore (lv' := [(7, .int (0 : Int32)), (6, .int x2), (5, .int v5), (0, .ref a_D), (1, .int v1), (2, .int v2), (3, .int v3)]) hx hb d_Ref_stretch_162 hl (by decide +kernel) rfl (fun ls hl => ?_)
            refine lv_iload hx hb d_Ref_stretch_164 (lv_at hl 0 rfl) ?_
            refine lv_if_ne (tgt := 224) hx hb d_Ref_stretch_166 (by decide +kernel) (fun c18 => ?_) (fun c18 => ?_)
            · have hf := x_neg c18 hf
              refine lv_iinc (v := (v5 + (1 : Int32))) (lv' := [(5, .int (v5 + (1 : Int32))), (7, .int (0 : Int32)), (6, .int x2), (0, .ref a_D), (1, .int v1), (2, .int v2), (3, .int v3)]) hx hb d_Ref_stretch_224 hl (k := 2) rfl rfl (by decide +kernel) rfl (fun ls hl => ?_)
              refine lv_goto (tgt := 73) hx hb d_Ref_stretch_227 (by decide +kernel) ?_
              exact ih (v5 + (1 : Int32)) x4.2 D_base o _ _ ls hf hP hD hS (lv_sub hl [0, 3, 4, 5, 6] rfl) kk
            · have hf := x_pos c18 hf
              refine lv_aload_n hx hb d_Ref_stretch_169 rfl (lv_at hl 3 rfl) ?_
              refine va_get (D := (dC, dI)) (ci := 6) (v := .ref a_D_sortOf) (C := "SyntaxTreesModel") (T := F_Ref) (N := 28) hx hb hts (fun w h => List.mem_cons_of_mem _ (in_Ref w h)) hown hK.1 hP 0 rfl rfl 2 (by decide +kernel) (hts _ (List.mem_cons_of_mem _ m_509)) (fun _ h9 => h9) rfl d_Ref_stretch_170 ?_
              refine lv_aload_n hx hb d_Ref_stretch_173 rfl (lv_at hl 3 rfl) ?_
              refine va_get (D := (dC, dI)) (ci := 6) (v := .ref a_D_makes) (C := "SyntaxTreesModel") (T := F_Ref) (N := 28) hx hb hts (fun w h => List.mem_cons_of_mem _ (in_Ref w h)) hown hK.1 hP 0 rfl rfl 6 (by decide +kernel) (hts _ (List.mem_cons_of_mem _ m_513)) (fun _ h9 => h9) rfl d_Ref_stretch_174 ?_
              refine lv_iload hx hb d_Ref_stretch_177 (lv_at hl 2 rfl) ?_
              obtain ⟨h19, hf⟩ := x_gd hf
              refine va_iald hx hb hK.1 hP 3 0 rfl rfl h19 d_Ref_stretch_179 ?_
              obtain ⟨h20, hf⟩ := x_gd hf
              refine va_iald hx hb hK.1 hP 2 0 rfl rfl h20 d_Ref_stretch_180 ?_
              refine lv_istore (lv' := [(8, .int (D_sortOf (D_makes v5.toNatClampNeg).toNatClampNeg)), (7, .int (0 : Int32)), (6, .int x2), (5, .int v5), (0, .ref a_D), (1, .int v1), (2, .int v2), (3, .int v3)]) hx hb d_Ref_stretch_181 hl (by decide +kernel) rfl (fun ls hl => ?_)
              refine lv_aload_n hx hb d_Ref_stretch_183 rfl (lv_at hl 4 rfl) ?_
              refine va_get (D := (dC, dI)) (ci := 6) (v := .ref a_D_base) (C := "SyntaxTreesModel") (T := F_Ref) (N := 28) hx hb hts (fun w h => List.mem_cons_of_mem _ (in_Ref w h)) hown hK.1 hP 0 rfl rfl 14 (by decide +kernel) (hts _ (List.mem_cons_of_mem _ m_521)) (fun _ h9 => h9) rfl d_Ref_stretch_184 ?_
              refine lv_iload hx hb d_Ref_stretch_187 (lv_at hl 0 rfl) ?_
              refine lv_aload_n hx hb d_Ref_stretch_189 rfl (lv_at hl 4 rfl) ?_
              refine va_get (D := (dC, dI)) (ci := 6) (v := .ref a_D_base) (C := "SyntaxTreesModel") (T := F_Ref) (N := 28) hx hb hts (fun w h => List.mem_cons_of_mem _ (in_Ref w h)) hown hK.1 hP 0 rfl rfl 14 (by decide +kernel) (hts _ (List.mem_cons_of_mem _ m_521)) (fun _ h9 => h9) rfl d_Ref_stretch_190 ?_
              refine lv_iload hx hb d_Ref_stretch_193 (lv_at hl 0 rfl) ?_
              obtain ⟨h21, hf⟩ := x_gd hf
              refine va_iald hx hb hK.1 hP 9 0 rfl rfl h21 d_Ref_stretch_195 ?_
              refine lv_aload_n hx hb d_Ref_stretch_196 rfl (lv_at hl 4 rfl) ?_
              refine va_get (D := (dC, dI)) (ci := 6) (v := .ref a_D_ways) (C := "SyntaxTreesModel") (T := F_Ref) (N := 28) hx hb hts (fun w h => List.mem_cons_of_mem _ (in_Ref w h)) hown hK.1 hP 0 rfl rfl 13 (by decide +kernel) (hts _ (List.mem_cons_of_mem _ m_520)) (fun _ h9 => h9) rfl d_Ref_stretch_197 ?_
              refine lv_bipush (v := (60 : Int32)) hx hb d_Ref_stretch_200 (by decide +kernel) ?_
              refine lv_aload_n hx hb d_Ref_stretch_202 rfl (lv_at hl 4 rfl) ?_
              refine va_get (D := (dC, dI)) (ci := 6) (v := .ref a_D_starts) (C := "SyntaxTreesModel") (T := F_Ref) (N := 28) hx hb hts (fun w h => List.mem_cons_of_mem _ (in_Ref w h)) hown hK.1 hP 0 rfl rfl 7 (by decide +kernel) (hts _ (List.mem_cons_of_mem _ m_514)) (fun _ h9 => h9) rfl d_Ref_stretch_203 ?_
              refine lv_iload hx hb d_Ref_stretch_206 (lv_at hl 3 rfl) ?_
              obtain ⟨h22, hf⟩ := x_gd hf
              refine va_iald hx hb hK.1 hP 4 0 rfl rfl h22 d_Ref_stretch_208 ?_
              refine lv_iload hx hb d_Ref_stretch_209 (lv_at hl 3 rfl) ?_
              refine lv_iadd hx hb d_Ref_stretch_211 ?_
              refine lv_iload hx hb d_Ref_stretch_212 (lv_at hl 2 rfl) ?_
              refine lv_iadd hx hb d_Ref_stretch_214 ?_
              refine lv_imul hx hb d_Ref_stretch_215 ?_
              refine lv_iload_n hx hb d_Ref_stretch_216 rfl (lv_at hl 6 rfl) ?_
              refine lv_iadd hx hb d_Ref_stretch_217 ?_
              obtain ⟨h23, hf⟩ := x_gd hf
              refine va_bald hx hb hK.1 hP 8 2 rfl rfl h23 d_Ref_stretch_218 ?_
              refine lv_iadd hx hb d_Ref_stretch_219 ?_
              obtain ⟨x24, hx24, hf⟩ := x_bd hf
              refine x_rdiS (As := [.int ((D_base (D_sortOf (D_makes v5.toNatClampNeg).toNatClampNeg).toNatClampNeg) + (x4.2 (((60 : Int32) * (((D_starts v5.toNatClampNeg) + v5) + x2)) + v2).toNatClampNeg))]) (rest := [.int (D_sortOf (D_makes v5.toNatClampNeg).toNatClampNeg), .ref a_D_base]) (wc := []) ⟨hx, hb, hml, hown, hts⟩ (c_Ref_capped l dC dI cI cJ cB ((D_base (D_sortOf (D_makes v5.toNatClampNeg).toNatClampNeg).toNatClampNeg) + (x4.2 (((60 : Int32) * (((D_starts v5.toNatClampNeg) + v5) + x2)) + v2).toNatClampNeg)) n x24 hx24) (cwS 1 hts (x_gS m_623 m_624 m_48 m_625) rfl rfl rfl hd_Ref_capped ⟨Nat.le_of_ble_eq_true rfl, Nat.le_of_ble_eq_true rfl⟩) hK hP [] rfl rfl hl.1 rfl (Nat.le_of_ble_eq_true rfl) d_Ref_stretch_220 ⟨Nat.le_of_ble_eq_true rfl, Nat.le_of_ble_eq_true rfl⟩ ?_
              obtain ⟨h25, hf⟩ := x_gd hf
              refine x_iast (w1 := [(a_D, .inr (6, [.int D_symbols, .ref a_D_types, .ref a_D_sortOf, .int D_sorts, .int D_rules, .int D_isOpen, .ref a_D_makes, .ref a_D_starts, .ref a_D_told, .int D_all, .ref a_D_row, .int D_length, .ref a_D_many, .ref a_D_ways, .ref a_D_base, .int D_isFound, .int D_foundLimit, .int D_nodes, .ref a_D_ruleOf, .ref a_D_sortAt, .ref a_D_from, .ref a_D_upTo, .ref a_D_firsts, .ref a_D_parts, .ref a_D_variables, .ref a_D_order, .ref a_D_pile, .ref a_D_next])), (a_D_types, .inl (cI, 1000, .inl D_types)), (a_D_sortOf, .inl (cI, 1000, .inl D_sortOf)), (a_D_makes, .inl (cI, 1500, .inl D_makes)), (a_D_starts, .inl (cI, 1501, .inl D_starts)), (a_D_told, .inl (cI, 30000, .inl D_told)), (a_D_row, .inl (cI, 59, .inl D_row)), (a_D_many, .inl (cB, 360000, .inl D_many)), (a_D_ways, .inl (cB, 1890100, .inl x4.2)), (a_D_base, .inl (cI, 100, .inl (upd D_base (D_sortOf (D_makes v5.toNatClampNeg).toNatClampNeg).toNatClampNeg x24))), (a_D_next, .inl (cI, 12000, .inl D_next))]) hx hb hK.1 hP hD hS 9 0 rfl rfl h25 d_Ref_stretch_223 rfl (fun H locs hP hD hS => ?_)
              refine lv_iinc (v := (v5 + (1 : Int32))) (lv' := [(5, .int (v5 + (1 : Int32))), (8, .int (D_sortOf (D_makes v5.toNatClampNeg).toNatClampNeg)), (7, .int (0 : Int32)), (6, .int x2), (0, .ref a_D), (1, .int v1), (2, .int v2), (3, .int v3)]) hx hb d_Ref_stretch_224 hl (k := 3) rfl rfl (by decide +kernel) rfl (fun ls hl => ?_)
              refine lv_goto (tgt := 73) hx hb d_Ref_stretch_227 (by decide +kernel) ?_
              exact ih (v5 + (1 : Int32)) x4.2 (upd D_base (D_sortOf (D_makes v5.toNatClampNeg).toNatClampNeg).toNatClampNeg x24) o _ _ ls hf hP hD hS (lv_sub hl [0, 4, 5, 6, 7] rfl) kk
          · have hf := x_neg c17 hf
            refine lv_iconst (v := (1 : Int32)) hx hb d_Ref_stretch_157 (by decide +kernel) ?_
            refine lv_goto (tgt := 162) hx hb d_Ref_stretch_158 (by decide +kernel) ?_
            refine lv_istore (lv' := [(7, .int (1 : Int32)), (6, .int x2), (5, .int v5), (0, .ref a_D), (1, .int v1), (2, .int v2), (3, .int v3)]) hx hb d_Ref_stretch_162 hl (by decide +kernel) rfl (fun ls hl => ?_)
            refine lv_iload hx hb d_Ref_stretch_164 (lv_at hl 0 rfl) ?_
            refine lv_if_ne (tgt := 224) hx hb d_Ref_stretch_166 (by decide +kernel) (fun c26 => ?_) (fun c26 => ?_)
            · have hf := x_neg c26 hf
              refine lv_iinc (v := (v5 + (1 : Int32))) (lv' := [(5, .int (v5 + (1 : Int32))), (7, .int (1 : Int32)), (6, .int x2), (0, .ref a_D), (1, .int v1), (2, .int v2), (3, .int v3)]) hx hb d_Ref_stretch_224 hl (k := 2) rfl rfl (by decide +kernel) rfl (fun ls hl => ?_)
              refine lv_goto (tgt := 73) hx hb d_Ref_stretch_227 (by decide +kernel) ?_
              exact ih (v5 + (1 : Int32)) x4.2 D_base o _ _ ls hf hP hD hS (lv_sub hl [0, 3, 4, 5, 6] rfl) kk
            · have hf := x_pos c26 hf
              refine lv_aload_n hx hb d_Ref_stretch_169 rfl (lv_at hl 3 rfl) ?_
              refine va_get (D := (dC, dI)) (ci := 6) (v := .ref a_D_sortOf) (C := "SyntaxTreesModel") (T := F_Ref) (N := 28) hx hb hts (fun w h => List.mem_cons_of_mem _ (in_Ref w h)) hown hK.1 hP 0 rfl rfl 2 (by decide +kernel) (hts _ (List.mem_cons_of_mem _ m_509)) (fun _ h9 => h9) rfl d_Ref_stretch_170 ?_
              refine lv_aload_n hx hb d_Ref_stretch_173 rfl (lv_at hl 3 rfl) ?_
              refine va_get (D := (dC, dI)) (ci := 6) (v := .ref a_D_makes) (C := "SyntaxTreesModel") (T := F_Ref) (N := 28) hx hb hts (fun w h => List.mem_cons_of_mem _ (in_Ref w h)) hown hK.1 hP 0 rfl rfl 6 (by decide +kernel) (hts _ (List.mem_cons_of_mem _ m_513)) (fun _ h9 => h9) rfl d_Ref_stretch_174 ?_
              refine lv_iload hx hb d_Ref_stretch_177 (lv_at hl 2 rfl) ?_
              obtain ⟨h27, hf⟩ := x_gd hf
              refine va_iald hx hb hK.1 hP 3 0 rfl rfl h27 d_Ref_stretch_179 ?_
              obtain ⟨h28, hf⟩ := x_gd hf
              refine va_iald hx hb hK.1 hP 2 0 rfl rfl h28 d_Ref_stretch_180 ?_
              refine lv_istore (lv' := [(8, .int (D_sortOf (D_makes v5.toNatClampNeg).toNatClampNeg)), (7, .int (1 : Int32)), (6, .int x2), (5, .int v5), (0, .ref a_D), (1, .int v1), (2, .int v2), (3, .int v3)]) hx hb d_Ref_stretch_181 hl (by decide +kernel) rfl (fun ls hl => ?_)
              refine lv_aload_n hx hb d_Ref_stretch_183 rfl (lv_at hl 4 rfl) ?_
              refine va_get (D := (dC, dI)) (ci := 6) (v := .ref a_D_base) (C := "SyntaxTreesModel") (T := F_Ref) (N := 28) hx hb hts (fun w h => List.mem_cons_of_mem _ (in_Ref w h)) hown hK.1 hP 0 rfl rfl 14 (by decide +kernel) (hts _ (List.mem_cons_of_mem _ m_521)) (fun _ h9 => h9) rfl d_Ref_stretch_184 ?_
              refine lv_iload hx hb d_Ref_stretch_187 (lv_at hl 0 rfl) ?_
              refine lv_aload_n hx hb d_Ref_stretch_189 rfl (lv_at hl 4 rfl) ?_
              refine va_get (D := (dC, dI)) (ci := 6) (v := .ref a_D_base) (C := "SyntaxTreesModel") (T := F_Ref) (N := 28) hx hb hts (fun w h => List.mem_cons_of_mem _ (in_Ref w h)) hown hK.1 hP 0 rfl rfl 14 (by decide +kernel) (hts _ (List.mem_cons_of_mem _ m_521)) (fun _ h9 => h9) rfl d_Ref_stretch_190 ?_
              refine lv_iload hx hb d_Ref_stretch_193 (lv_at hl 0 rfl) ?_
              obtain ⟨h29, hf⟩ := x_gd hf
              refine va_iald hx hb hK.1 hP 9 0 rfl rfl h29 d_Ref_stretch_195 ?_
              refine lv_aload_n hx hb d_Ref_stretch_196 rfl (lv_at hl 4 rfl) ?_
              refine va_get (D := (dC, dI)) (ci := 6) (v := .ref a_D_ways) (C := "SyntaxTreesModel") (T := F_Ref) (N := 28) hx hb hts (fun w h => List.mem_cons_of_mem _ (in_Ref w h)) hown hK.1 hP 0 rfl rfl 13 (by decide +kernel) (hts _ (List.mem_cons_of_mem _ m_520)) (fun _ h9 => h9) rfl d_Ref_stretch_197 ?_
              refine lv_bipush (v := (60 : Int32)) hx hb d_Ref_stretch_200 (by decide +kernel) ?_
              refine lv_aload_n hx hb d_Ref_stretch_202 rfl (lv_at hl 4 rfl) ?_
              refine va_get (D := (dC, dI)) (ci := 6) (v := .ref a_D_starts) (C := "SyntaxTreesModel") (T := F_Ref) (N := 28) hx hb hts (fun w h => List.mem_cons_of_mem _ (in_Ref w h)) hown hK.1 hP 0 rfl rfl 7 (by decide +kernel) (hts _ (List.mem_cons_of_mem _ m_514)) (fun _ h9 => h9) rfl d_Ref_stretch_203 ?_
              refine lv_iload hx hb d_Ref_stretch_206 (lv_at hl 3 rfl) ?_
              obtain ⟨h30, hf⟩ := x_gd hf
              refine va_iald hx hb hK.1 hP 4 0 rfl rfl h30 d_Ref_stretch_208 ?_
              refine lv_iload hx hb d_Ref_stretch_209 (lv_at hl 3 rfl) ?_
              refine lv_iadd hx hb d_Ref_stretch_211 ?_
              refine lv_iload hx hb d_Ref_stretch_212 (lv_at hl 2 rfl) ?_
              refine lv_iadd hx hb d_Ref_stretch_214 ?_
              refine lv_imul hx hb d_Ref_stretch_215 ?_
              refine lv_iload_n hx hb d_Ref_stretch_216 rfl (lv_at hl 6 rfl) ?_
              refine lv_iadd hx hb d_Ref_stretch_217 ?_
              obtain ⟨h31, hf⟩ := x_gd hf
              refine va_bald hx hb hK.1 hP 8 2 rfl rfl h31 d_Ref_stretch_218 ?_
              refine lv_iadd hx hb d_Ref_stretch_219 ?_
              obtain ⟨x32, hx32, hf⟩ := x_bd hf
              refine x_rdiS (As := [.int ((D_base (D_sortOf (D_makes v5.toNatClampNeg).toNatClampNeg).toNatClampNeg) + (x4.2 (((60 : Int32) * (((D_starts v5.toNatClampNeg) + v5) + x2)) + v2).toNatClampNeg))]) (rest := [.int (D_sortOf (D_makes v5.toNatClampNeg).toNatClampNeg), .ref a_D_base]) (wc := []) ⟨hx, hb, hml, hown, hts⟩ (c_Ref_capped l dC dI cI cJ cB ((D_base (D_sortOf (D_makes v5.toNatClampNeg).toNatClampNeg).toNatClampNeg) + (x4.2 (((60 : Int32) * (((D_starts v5.toNatClampNeg) + v5) + x2)) + v2).toNatClampNeg)) n x32 hx32) (cwS 1 hts (x_gS m_623 m_624 m_48 m_625) rfl rfl rfl hd_Ref_capped ⟨Nat.le_of_ble_eq_true rfl, Nat.le_of_ble_eq_true rfl⟩) hK hP [] rfl rfl hl.1 rfl (Nat.le_of_ble_eq_true rfl) d_Ref_stretch_220 ⟨Nat.le_of_ble_eq_true rfl, Nat.le_of_ble_eq_true rfl⟩ ?_
              obtain ⟨h33, hf⟩ := x_gd hf
              refine x_iast (w1 := [(a_D, .inr (6, [.int D_symbols, .ref a_D_types, .ref a_D_sortOf, .int D_sorts, .int D_rules, .int D_isOpen, .ref a_D_makes, .ref a_D_starts, .ref a_D_told, .int D_all, .ref a_D_row, .int D_length, .ref a_D_many, .ref a_D_ways, .ref a_D_base, .int D_isFound, .int D_foundLimit, .int D_nodes, .ref a_D_ruleOf, .ref a_D_sortAt, .ref a_D_from, .ref a_D_upTo, .ref a_D_firsts, .ref a_D_parts, .ref a_D_variables, .ref a_D_order, .ref a_D_pile, .ref a_D_next])), (a_D_types, .inl (cI, 1000, .inl D_types)), (a_D_sortOf, .inl (cI, 1000, .inl D_sortOf)), (a_D_makes, .inl (cI, 1500, .inl D_makes)), (a_D_starts, .inl (cI, 1501, .inl D_starts)), (a_D_told, .inl (cI, 30000, .inl D_told)), (a_D_row, .inl (cI, 59, .inl D_row)), (a_D_many, .inl (cB, 360000, .inl D_many)), (a_D_ways, .inl (cB, 1890100, .inl x4.2)), (a_D_base, .inl (cI, 100, .inl (upd D_base (D_sortOf (D_makes v5.toNatClampNeg).toNatClampNeg).toNatClampNeg x32))), (a_D_next, .inl (cI, 12000, .inl D_next))]) hx hb hK.1 hP hD hS 9 0 rfl rfl h33 d_Ref_stretch_223 rfl (fun H locs hP hD hS => ?_)
              refine lv_iinc (v := (v5 + (1 : Int32))) (lv' := [(5, .int (v5 + (1 : Int32))), (8, .int (D_sortOf (D_makes v5.toNatClampNeg).toNatClampNeg)), (7, .int (1 : Int32)), (6, .int x2), (0, .ref a_D), (1, .int v1), (2, .int v2), (3, .int v3)]) hx hb d_Ref_stretch_224 hl (k := 3) rfl rfl (by decide +kernel) rfl (fun ls hl => ?_)
              refine lv_goto (tgt := 73) hx hb d_Ref_stretch_227 (by decide +kernel) ?_
              exact ih (v5 + (1 : Int32)) x4.2 (upd D_base (D_sortOf (D_makes v5.toNatClampNeg).toNatClampNeg).toNatClampNeg x32) o _ _ ls hf hP hD hS (lv_sub hl [0, 4, 5, 6, 7] rfl) kk
set_option maxHeartbeats 4000000 in
set_option maxRecDepth 100000 in
theorem w_Ref_stretch_L240 {p : Program} {l : Launch} {e : Env} {s : State} {m : MethodId} {args : Array Value} {below : List Frame} {meth : Method} {c : Code} {dC : Nat → ClassId} {dI : Nat → Nat → Nat} {cI cJ cB : ClassId} {a_D a_D_types a_D_sortOf a_D_makes a_D_starts a_D_told a_D_row a_D_many a_D_ways a_D_base a_D_ruleOf a_D_sortAt a_D_from a_D_upTo a_D_firsts a_D_parts a_D_variables a_D_order a_D_pile a_D_next : Nat} {A : Nat → Prop} {Q : State → Prop} (n : Nat) (v1 : Int32) (v2 : Int32) (v3 : Int32) (D_symbols : Int32) (D_sorts : Int32) (D_rules : Int32) (D_isOpen : Int32) (D_all : Int32) (D_length : Int32) (D_isFound : Int32) (D_foundLimit : Int32) (D_nodes : Int32) (D_types : Nat → Int32) (D_sortOf : Nat → Int32) (D_makes : Nat → Int32) (D_starts : Nat → Int32) (D_told : Nat → Int32) (D_row : Nat → Int32) (D_many : Nat → Int32) (D_base : Nat → Int32) (D_next : Nat → Int32) (hx : p.tables.exec = Jvm.exec) (hb : c.code = b_Ref_stretch) (hml : c.maxLocals = 9) (hown : s.vm.findClass "SyntaxTreesModel" = some m.cls) (hts : ∀ w ∈ w_Ref_stretch, w.before args s = true) (hK : x_K (dC, dI) [(cI, .int), (cJ, .long), (cB, .byte)] s) (hA : ∀ q, s.heap.size ≤ q → A q) : ∀ (k : Nat) (v5 : Int32) (D_ways : Nat → Int32) (o : Int32 × (Nat → Int32)) (H : Heap) (locs : List Loc) (ls : Array Slot), f_Ref_stretch_L240 n v1 v2 v3 D_length D_types D_sortOf D_starts D_told D_many k v5 D_ways = some o → va_P (dC, dI) vwCl [(a_D, .inr (6, [.int D_symbols, .ref a_D_types, .ref a_D_sortOf, .int D_sorts, .int D_rules, .int D_isOpen, .ref a_D_makes, .ref a_D_starts, .ref a_D_told, .int D_all, .ref a_D_row, .int D_length, .ref a_D_many, .ref a_D_ways, .ref a_D_base, .int D_isFound, .int D_foundLimit, .int D_nodes, .ref a_D_ruleOf, .ref a_D_sortAt, .ref a_D_from, .ref a_D_upTo, .ref a_D_firsts, .ref a_D_parts, .ref a_D_variables, .ref a_D_order, .ref a_D_pile, .ref a_D_next])), (a_D_types, .inl (cI, 1000, .inl D_types)), (a_D_sortOf, .inl (cI, 1000, .inl D_sortOf)), (a_D_makes, .inl (cI, 1500, .inl D_makes)), (a_D_starts, .inl (cI, 1501, .inl D_starts)), (a_D_told, .inl (cI, 30000, .inl D_told)), (a_D_row, .inl (cI, 59, .inl D_row)), (a_D_many, .inl (cB, 360000, .inl D_many)), (a_D_ways, .inl (cB, 1890100, .inl D_ways)), (a_D_base, .inl (cI, 100, .inl D_base)), (a_D_next, .inl (cI, 12000, .inl D_next))] H → va_D A [(a_D, .inr (6, [.int D_symbols, .ref a_D_types, .ref a_D_sortOf, .int D_sorts, .int D_rules, .int D_isOpen, .ref a_D_makes, .ref a_D_starts, .ref a_D_told, .int D_all, .ref a_D_row, .int D_length, .ref a_D_many, .ref a_D_ways, .ref a_D_base, .int D_isFound, .int D_foundLimit, .int D_nodes, .ref a_D_ruleOf, .ref a_D_sortAt, .ref a_D_from, .ref a_D_upTo, .ref a_D_firsts, .ref a_D_parts, .ref a_D_variables, .ref a_D_order, .ref a_D_pile, .ref a_D_next])), (a_D_types, .inl (cI, 1000, .inl D_types)), (a_D_sortOf, .inl (cI, 1000, .inl D_sortOf)), (a_D_makes, .inl (cI, 1500, .inl D_makes)), (a_D_starts, .inl (cI, 1501, .inl D_starts)), (a_D_told, .inl (cI, 30000, .inl D_told)), (a_D_row, .inl (cI, 59, .inl D_row)), (a_D_many, .inl (cB, 360000, .inl D_many)), (a_D_ways, .inl (cB, 1890100, .inl D_ways)), (a_D_base, .inl (cI, 100, .inl D_base)), (a_D_next, .inl (cI, 12000, .inl D_next))] → va_S A s.heap H locs → lv_has ls 9 [(5, .int v5), (0, .ref a_D), (1, .int v1), (2, .int v2), (3, .int v3)] → (∀ (H : Heap) (locs : List Loc) (ls : Array Slot), va_P (dC, dI) vwCl [(a_D, .inr (6, [.int D_symbols, .ref a_D_types, .ref a_D_sortOf, .int D_sorts, .int D_rules, .int D_isOpen, .ref a_D_makes, .ref a_D_starts, .ref a_D_told, .int D_all, .ref a_D_row, .int D_length, .ref a_D_many, .ref a_D_ways, .ref a_D_base, .int D_isFound, .int D_foundLimit, .int D_nodes, .ref a_D_ruleOf, .ref a_D_sortAt, .ref a_D_from, .ref a_D_upTo, .ref a_D_firsts, .ref a_D_parts, .ref a_D_variables, .ref a_D_order, .ref a_D_pile, .ref a_D_next])), (a_D_types, .inl (cI, 1000, .inl D_types)), (a_D_sortOf, .inl (cI, 1000, .inl D_sortOf)), (a_D_makes, .inl (cI, 1500, .inl D_makes)), (a_D_starts, .inl (cI, 1501, .inl D_starts)), (a_D_told, .inl (cI, 30000, .inl D_told)), (a_D_row, .inl (cI, 59, .inl D_row)), (a_D_many, .inl (cB, 360000, .inl D_many)), (a_D_ways, .inl (cB, 1890100, .inl o.2)), (a_D_base, .inl (cI, 100, .inl D_base)), (a_D_next, .inl (cI, 12000, .inl D_next))] H → va_D A [(a_D, .inr (6, [.int D_symbols, .ref a_D_types, .ref a_D_sortOf, .int D_sorts, .int D_rules, .int D_isOpen, .ref a_D_makes, .ref a_D_starts, .ref a_D_told, .int D_all, .ref a_D_row, .int D_length, .ref a_D_many, .ref a_D_ways, .ref a_D_base, .int D_isFound, .int D_foundLimit, .int D_nodes, .ref a_D_ruleOf, .ref a_D_sortAt, .ref a_D_from, .ref a_D_upTo, .ref a_D_firsts, .ref a_D_parts, .ref a_D_variables, .ref a_D_order, .ref a_D_pile, .ref a_D_next])), (a_D_types, .inl (cI, 1000, .inl D_types)), (a_D_sortOf, .inl (cI, 1000, .inl D_sortOf)), (a_D_makes, .inl (cI, 1500, .inl D_makes)), (a_D_starts, .inl (cI, 1501, .inl D_starts)), (a_D_told, .inl (cI, 30000, .inl D_told)), (a_D_row, .inl (cI, 59, .inl D_row)), (a_D_many, .inl (cB, 360000, .inl D_many)), (a_D_ways, .inl (cB, 1890100, .inl o.2)), (a_D_base, .inl (cI, 100, .inl D_base)), (a_D_next, .inl (cI, 12000, .inl D_next))] → va_S A s.heap H locs → lv_has ls 9 [(5, .int o.1), (0, .ref a_D), (1, .int v1), (2, .int v2), (3, .int v3)] → W p l e ({ frames := 2, cells := 0, slots := 0, locals := 52 }) s m args below meth c H locs 0 0 Q (F0 m 321 ls [])) → W p l e ({ frames := 2, cells := 0, slots := 0, locals := 52 }) s m args below meth c H locs 0 0 Q (F0 m 240 ls []) := by
  intro k
  induction k with
  | zero =>
    intro v5 D_ways o H locs ls hf
    exact absurd hf (by simp [f_Ref_stretch_L240])
  | succ k ih =>
    intro v5 D_ways o H locs ls hf hP hD hS hl kk
    rw [f_Ref_stretch_L240] at hf
    refine lv_iload hx hb d_Ref_stretch_240 (lv_at hl 0 rfl) ?_
    refine lv_iload_n hx hb d_Ref_stretch_242 rfl (lv_at hl 4 rfl) ?_
    refine lv_icmp_ge (tgt := 321) hx hb d_Ref_stretch_243 (by decide +kernel) (fun c1 => ?_) (fun c1 => ?_)
    · have hf := x_pos c1 hf
      cases hf
      exact kk _ _ ls hP hD hS (lv_sub hl [0, 1, 2, 3, 4] rfl)
    · have hf := x_neg c1 hf
      refine lv_aload_n hx hb d_Ref_stretch_246 rfl (lv_at hl 1 rfl) ?_
      refine va_get (D := (dC, dI)) (ci := 6) (v := .ref a_D_told) (C := "SyntaxTreesModel") (T := F_Ref) (N := 28) hx hb hts (fun w h => List.mem_cons_of_mem _ (in_Ref w h)) hown hK.1 hP 0 rfl rfl 8 (by decide +kernel) (hts _ (List.mem_cons_of_mem _ m_515)) (fun _ h9 => h9) rfl d_Ref_stretch_247 ?_
      refine lv_aload_n hx hb d_Ref_stretch_250 rfl (lv_at hl 1 rfl) ?_
      refine va_get (D := (dC, dI)) (ci := 6) (v := .ref a_D_starts) (C := "SyntaxTreesModel") (T := F_Ref) (N := 28) hx hb hts (fun w h => List.mem_cons_of_mem _ (in_Ref w h)) hown hK.1 hP 0 rfl rfl 7 (by decide +kernel) (hts _ (List.mem_cons_of_mem _ m_514)) (fun _ h9 => h9) rfl d_Ref_stretch_251 ?_
      refine lv_iload hx hb d_Ref_stretch_254 (lv_at hl 0 rfl) ?_
      obtain ⟨h2, hf⟩ := x_gd hf
      refine va_iald hx hb hK.1 hP 4 0 rfl rfl h2 d_Ref_stretch_256 ?_
      obtain ⟨h3, hf⟩ := x_gd hf
      refine va_iald hx hb hK.1 hP 5 0 rfl rfl h3 d_Ref_stretch_257 ?_
      refine lv_istore (lv' := [(6, .int (D_told (D_starts v5.toNatClampNeg).toNatClampNeg)), (5, .int v5), (0, .ref a_D), (1, .int v1), (2, .int v2), (3, .int v3)]) hx hb d_Ref_stretch_258 hl (by decide +kernel) rfl (fun ls hl => ?_)
      refine lv_aload_n hx hb d_Ref_stretch_260 rfl (lv_at hl 2 rfl) ?_
      refine va_get (D := (dC, dI)) (ci := 6) (v := .ref a_D_types) (C := "SyntaxTreesModel") (T := F_Ref) (N := 28) hx hb hts (fun w h => List.mem_cons_of_mem _ (in_Ref w h)) hown hK.1 hP 0 rfl rfl 1 (by decide +kernel) (hts _ (List.mem_cons_of_mem _ m_508)) (fun _ h9 => h9) rfl d_Ref_stretch_261 ?_
      refine lv_iload hx hb d_Ref_stretch_264 (lv_at hl 0 rfl) ?_
      obtain ⟨h4, hf⟩ := x_gd hf
      refine va_iald hx hb hK.1 hP 1 0 rfl rfl h4 d_Ref_stretch_266 ?_
      refine lv_iconst (v := (-1 : Int32)) hx hb d_Ref_stretch_267 (by decide +kernel) ?_
      refine lv_icmp_eq (tgt := 315) hx hb d_Ref_stretch_268 (by decide +kernel) (fun c5 => ?_) (fun c5 => ?_)
      · have hf := x_pos c5 hf
        refine lv_iinc (v := (v5 + (1 : Int32))) (lv' := [(5, .int (v5 + (1 : Int32))), (6, .int (D_told (D_starts v5.toNatClampNeg).toNatClampNeg)), (0, .ref a_D), (1, .int v1), (2, .int v2), (3, .int v3)]) hx hb d_Ref_stretch_315 hl (k := 1) rfl rfl (by decide +kernel) rfl (fun ls hl => ?_)
        refine lv_goto (tgt := 240) hx hb d_Ref_stretch_318 (by decide +kernel) ?_
        exact ih (v5 + (1 : Int32)) D_ways o _ _ ls hf hP hD hS (lv_sub hl [0, 2, 3, 4, 5] rfl) kk
      · have hf := x_neg c5 hf
        refine lv_aload_n hx hb d_Ref_stretch_271 rfl (lv_at hl 2 rfl) ?_
        refine lv_iload hx hb d_Ref_stretch_272 (lv_at hl 1 rfl) ?_
        obtain ⟨x6, hx6, hf⟩ := x_bd hf
        refine x_rdiV (As := [.int v5]) (rest := []) (wc := [(a_D, .inr (6, [.int D_symbols, .ref a_D_types, .ref a_D_sortOf, .int D_sorts, .int D_rules, .int D_isOpen, .ref a_D_makes, .ref a_D_starts, .ref a_D_told, .int D_all, .ref a_D_row, .int D_length, .ref a_D_many, .ref a_D_ways, .ref a_D_base, .int D_isFound, .int D_foundLimit, .int D_nodes, .ref a_D_ruleOf, .ref a_D_sortAt, .ref a_D_from, .ref a_D_upTo, .ref a_D_firsts, .ref a_D_parts, .ref a_D_variables, .ref a_D_order, .ref a_D_pile, .ref a_D_next])), (a_D_starts, .inl (cI, 1501, .inl D_starts))]) ⟨hx, hb, hml, hown, hts⟩ (c_Ref_lengthOf l dC dI cI cJ cB a_D a_D_types a_D_sortOf a_D_makes a_D_starts a_D_told a_D_row a_D_many a_D_ways a_D_base a_D_ruleOf a_D_sortAt a_D_from a_D_upTo a_D_firsts a_D_parts a_D_variables a_D_order a_D_pile a_D_next D_symbols D_sorts D_rules D_isOpen D_all D_length D_isFound D_foundLimit D_nodes D_starts v5 n x6 hx6) (cwV 1 hts (x_gV m_611 m_612 m_32 m_48 m_613) rfl rfl rfl hd_Ref_lengthOf ⟨Nat.le_of_ble_eq_true rfl, Nat.le_of_ble_eq_true rfl⟩) hK hP [0, 4] rfl (ci := 6) (q0 := 0) rfl rfl rfl rfl hl.1 rfl (Nat.le_of_ble_eq_true rfl) d_Ref_stretch_274 ⟨Nat.le_of_ble_eq_true rfl, Nat.le_of_ble_eq_true rfl⟩ ?_
        refine lv_aload_n hx hb d_Ref_stretch_277 rfl (lv_at hl 2 rfl) ?_
        refine va_get (D := (dC, dI)) (ci := 6) (v := .int D_length) (C := "SyntaxTreesModel") (T := F_Ref) (N := 28) hx hb hts (fun w h => List.mem_cons_of_mem _ (in_Ref w h)) hown hK.1 hP 0 rfl rfl 11 (by decide +kernel) (hts _ (List.mem_cons_of_mem _ m_518)) (fun _ h9 => h9) rfl d_Ref_stretch_278 ?_
        refine lv_icmp_gt (tgt := 315) hx hb d_Ref_stretch_281 (by decide +kernel) (fun c7 => ?_) (fun c7 => ?_)
        · have hf := x_pos c7 hf
          refine lv_iinc (v := (v5 + (1 : Int32))) (lv' := [(5, .int (v5 + (1 : Int32))), (6, .int (D_told (D_starts v5.toNatClampNeg).toNatClampNeg)), (0, .ref a_D), (1, .int v1), (2, .int v2), (3, .int v3)]) hx hb d_Ref_stretch_315 hl (k := 1) rfl rfl (by decide +kernel) rfl (fun ls hl => ?_)
          refine lv_goto (tgt := 240) hx hb d_Ref_stretch_318 (by decide +kernel) ?_
          exact ih (v5 + (1 : Int32)) D_ways o _ _ ls hf hP hD hS (lv_sub hl [0, 2, 3, 4, 5] rfl) kk
        · have hf := x_neg c7 hf
          refine lv_aload_n hx hb d_Ref_stretch_284 rfl (lv_at hl 2 rfl) ?_
          refine va_get (D := (dC, dI)) (ci := 6) (v := .ref a_D_ways) (C := "SyntaxTreesModel") (T := F_Ref) (N := 28) hx hb hts (fun w h => List.mem_cons_of_mem _ (in_Ref w h)) hown hK.1 hP 0 rfl rfl 13 (by decide +kernel) (hts _ (List.mem_cons_of_mem _ m_520)) (fun _ h9 => h9) rfl d_Ref_stretch_285 ?_
          refine lv_bipush (v := (60 : Int32)) hx hb d_Ref_stretch_288 (by decide +kernel) ?_
          refine lv_aload_n hx hb d_Ref_stretch_290 rfl (lv_at hl 2 rfl) ?_
          refine va_get (D := (dC, dI)) (ci := 6) (v := .ref a_D_starts) (C := "SyntaxTreesModel") (T := F_Ref) (N := 28) hx hb hts (fun w h => List.mem_cons_of_mem _ (in_Ref w h)) hown hK.1 hP 0 rfl rfl 7 (by decide +kernel) (hts _ (List.mem_cons_of_mem _ m_514)) (fun _ h9 => h9) rfl d_Ref_stretch_291 ?_
          refine lv_iload hx hb d_Ref_stretch_294 (lv_at hl 1 rfl) ?_
          obtain ⟨h8, hf⟩ := x_gd hf
          refine va_iald hx hb hK.1 hP 4 0 rfl rfl h8 d_Ref_stretch_296 ?_
          refine lv_iload hx hb d_Ref_stretch_297 (lv_at hl 1 rfl) ?_
          refine lv_iadd hx hb d_Ref_stretch_299 ?_
          refine lv_iconst (v := (1 : Int32)) hx hb d_Ref_stretch_300 (by decide +kernel) ?_
          refine lv_iadd hx hb d_Ref_stretch_301 ?_
          refine lv_imul hx hb d_Ref_stretch_302 ?_
          refine lv_iload_n hx hb d_Ref_stretch_303 rfl (lv_at hl 4 rfl) ?_
          refine lv_iadd hx hb d_Ref_stretch_304 ?_
          refine lv_aload_n hx hb d_Ref_stretch_305 rfl (lv_at hl 2 rfl) ?_
          refine lv_iload hx hb d_Ref_stretch_306 (lv_at hl 0 rfl) ?_
          refine lv_iload_n hx hb d_Ref_stretch_308 rfl (lv_at hl 3 rfl) ?_
          refine lv_iload_n hx hb d_Ref_stretch_309 rfl (lv_at hl 4 rfl) ?_
          obtain ⟨x9, hx9, hf⟩ := x_bd hf
          refine x_rdiV (As := [.int (D_told (D_starts v5.toNatClampNeg).toNatClampNeg), .int v1, .int v2]) (rest := [.int (((60 : Int32) * (((D_starts v5.toNatClampNeg) + v5) + (1 : Int32))) + v2), .ref a_D_ways]) (wc := [(a_D, .inr (6, [.int D_symbols, .ref a_D_types, .ref a_D_sortOf, .int D_sorts, .int D_rules, .int D_isOpen, .ref a_D_makes, .ref a_D_starts, .ref a_D_told, .int D_all, .ref a_D_row, .int D_length, .ref a_D_many, .ref a_D_ways, .ref a_D_base, .int D_isFound, .int D_foundLimit, .int D_nodes, .ref a_D_ruleOf, .ref a_D_sortAt, .ref a_D_from, .ref a_D_upTo, .ref a_D_firsts, .ref a_D_parts, .ref a_D_variables, .ref a_D_order, .ref a_D_pile, .ref a_D_next])), (a_D_types, .inl (cI, 1000, .inl D_types)), (a_D_sortOf, .inl (cI, 1000, .inl D_sortOf)), (a_D_many, .inl (cB, 360000, .inl D_many))]) ⟨hx, hb, hml, hown, hts⟩ (c_Ref_treesOf l dC dI cI cJ cB a_D a_D_types a_D_sortOf a_D_makes a_D_starts a_D_told a_D_row a_D_many a_D_ways a_D_base a_D_ruleOf a_D_sortAt a_D_from a_D_upTo a_D_firsts a_D_parts a_D_variables a_D_order a_D_pile a_D_next D_symbols D_sorts D_rules D_isOpen D_all D_length D_isFound D_foundLimit D_nodes D_types D_sortOf D_many (D_told (D_starts v5.toNatClampNeg).toNatClampNeg) v1 v2 n x9 hx9) (cwV 3 hts (x_gV m_620 m_621 m_35 m_48 m_622) rfl rfl rfl hd_Ref_treesOf ⟨Nat.le_of_ble_eq_true rfl, Nat.le_of_ble_eq_true rfl⟩) hK hP [0, 1, 2, 7] rfl (ci := 6) (q0 := 0) rfl rfl rfl rfl hl.1 rfl (Nat.le_of_ble_eq_true rfl) d_Ref_stretch_310 ⟨Nat.le_of_ble_eq_true rfl, Nat.le_of_ble_eq_true rfl⟩ ?_
          refine lv_i2b hx hb d_Ref_stretch_313 rfl ?_
          obtain ⟨h10, hf⟩ := x_gd hf
          refine x_bast (w1 := [(a_D, .inr (6, [.int D_symbols, .ref a_D_types, .ref a_D_sortOf, .int D_sorts, .int D_rules, .int D_isOpen, .ref a_D_makes, .ref a_D_starts, .ref a_D_told, .int D_all, .ref a_D_row, .int D_length, .ref a_D_many, .ref a_D_ways, .ref a_D_base, .int D_isFound, .int D_foundLimit, .int D_nodes, .ref a_D_ruleOf, .ref a_D_sortAt, .ref a_D_from, .ref a_D_upTo, .ref a_D_firsts, .ref a_D_parts, .ref a_D_variables, .ref a_D_order, .ref a_D_pile, .ref a_D_next])), (a_D_types, .inl (cI, 1000, .inl D_types)), (a_D_sortOf, .inl (cI, 1000, .inl D_sortOf)), (a_D_makes, .inl (cI, 1500, .inl D_makes)), (a_D_starts, .inl (cI, 1501, .inl D_starts)), (a_D_told, .inl (cI, 30000, .inl D_told)), (a_D_row, .inl (cI, 59, .inl D_row)), (a_D_many, .inl (cB, 360000, .inl D_many)), (a_D_ways, .inl (cB, 1890100, .inl (upd D_ways (((60 : Int32) * (((D_starts v5.toNatClampNeg) + v5) + (1 : Int32))) + v2).toNatClampNeg (vp_nar .byte (x9.toInt8.toInt32))))), (a_D_base, .inl (cI, 100, .inl D_base)), (a_D_next, .inl (cI, 12000, .inl D_next))]) hx hb hK.1 hP hD hS 8 2 rfl rfl h10 d_Ref_stretch_314 rfl (fun H locs hP hD hS => ?_)
          refine lv_iinc (v := (v5 + (1 : Int32))) (lv' := [(5, .int (v5 + (1 : Int32))), (6, .int (D_told (D_starts v5.toNatClampNeg).toNatClampNeg)), (0, .ref a_D), (1, .int v1), (2, .int v2), (3, .int v3)]) hx hb d_Ref_stretch_315 hl (k := 1) rfl rfl (by decide +kernel) rfl (fun ls hl => ?_)
          refine lv_goto (tgt := 240) hx hb d_Ref_stretch_318 (by decide +kernel) ?_
          exact ih (v5 + (1 : Int32)) (upd D_ways (((60 : Int32) * (((D_starts v5.toNatClampNeg) + v5) + (1 : Int32))) + v2).toNatClampNeg (vp_nar .byte (x9.toInt8.toInt32))) o _ _ ls hf hP hD hS (lv_sub hl [0, 2, 3, 4, 5] rfl) kk
set_option maxHeartbeats 4000000 in
set_option maxRecDepth 100000 in
theorem c_Ref_stretch (l : Launch) (dC : Nat → ClassId) (dI : Nat → Nat → Nat) (cI cJ cB : ClassId) (a_D a_D_types a_D_sortOf a_D_makes a_D_starts a_D_told a_D_row a_D_many a_D_ways a_D_base a_D_ruleOf a_D_sortAt a_D_from a_D_upTo a_D_firsts a_D_parts a_D_variables a_D_order a_D_pile a_D_next : Nat)  (D_symbols : Int32) (D_sorts : Int32) (D_rules : Int32) (D_isOpen : Int32) (D_all : Int32) (D_length : Int32) (D_isFound : Int32) (D_foundLimit : Int32) (D_nodes : Int32) (D_types : Nat → Int32) (D_sortOf : Nat → Int32) (D_makes : Nat → Int32) (D_starts : Nat → Int32) (D_told : Nat → Int32) (D_row : Nat → Int32) (D_many : Nat → Int32) (D_ways : Nat → Int32) (D_base : Nat → Int32) (D_next : Nat → Int32) (p1 : Int32) (p2 : Int32) (p3 : Int32) (sz : Nat) (n : Nat) (o : (Nat → Int32) × (Nat → Int32) × (Nat → Int32) × (Nat → Int32)) (hf : f_Ref_stretch n D_sorts D_length D_types D_sortOf D_makes D_starts D_told D_row D_many D_ways D_base D_next p1 p2 p3 = some o) : Met l y_Ref_stretch w_Ref_stretch ({ frames := 2, cells := 0, slots := 0, locals := 52 }) (va_Pc [.ref a_D, .int p1, .int p2, .int p3] (fun U => U.heap.size = sz ∧ va_P (dC, dI) vwCl [(a_D, .inr (6, [.int D_symbols, .ref a_D_types, .ref a_D_sortOf, .int D_sorts, .int D_rules, .int D_isOpen, .ref a_D_makes, .ref a_D_starts, .ref a_D_told, .int D_all, .ref a_D_row, .int D_length, .ref a_D_many, .ref a_D_ways, .ref a_D_base, .int D_isFound, .int D_foundLimit, .int D_nodes, .ref a_D_ruleOf, .ref a_D_sortAt, .ref a_D_from, .ref a_D_upTo, .ref a_D_firsts, .ref a_D_parts, .ref a_D_variables, .ref a_D_order, .ref a_D_pile, .ref a_D_next])), (a_D_types, .inl (cI, 1000, .inl D_types)), (a_D_sortOf, .inl (cI, 1000, .inl D_sortOf)), (a_D_makes, .inl (cI, 1500, .inl D_makes)), (a_D_starts, .inl (cI, 1501, .inl D_starts)), (a_D_told, .inl (cI, 30000, .inl D_told)), (a_D_row, .inl (cI, 59, .inl D_row)), (a_D_many, .inl (cB, 360000, .inl D_many)), (a_D_ways, .inl (cB, 1890100, .inl D_ways)), (a_D_base, .inl (cI, 100, .inl D_base)), (a_D_next, .inl (cI, 12000, .inl D_next))] U.heap ∧ x_K (dC, dI) [(cI, .int), (cJ, .long), (cB, .byte)] U ∧ va_D (fun _ => True) [(a_D, .inr (6, [.int D_symbols, .ref a_D_types, .ref a_D_sortOf, .int D_sorts, .int D_rules, .int D_isOpen, .ref a_D_makes, .ref a_D_starts, .ref a_D_told, .int D_all, .ref a_D_row, .int D_length, .ref a_D_many, .ref a_D_ways, .ref a_D_base, .int D_isFound, .int D_foundLimit, .int D_nodes, .ref a_D_ruleOf, .ref a_D_sortAt, .ref a_D_from, .ref a_D_upTo, .ref a_D_firsts, .ref a_D_parts, .ref a_D_variables, .ref a_D_order, .ref a_D_pile, .ref a_D_next])), (a_D_types, .inl (cI, 1000, .inl D_types)), (a_D_sortOf, .inl (cI, 1000, .inl D_sortOf)), (a_D_makes, .inl (cI, 1500, .inl D_makes)), (a_D_starts, .inl (cI, 1501, .inl D_starts)), (a_D_told, .inl (cI, 30000, .inl D_told)), (a_D_row, .inl (cI, 59, .inl D_row)), (a_D_many, .inl (cB, 360000, .inl D_many)), (a_D_ways, .inl (cB, 1890100, .inl D_ways)), (a_D_base, .inl (cI, 100, .inl D_base)), (a_D_next, .inl (cI, 12000, .inl D_next))])) (va_Qv (fun (_ : Unit) => True) (fun _ t => va_P (dC, dI) vwCl [(a_D, .inr (6, [.int D_symbols, .ref a_D_types, .ref a_D_sortOf, .int D_sorts, .int D_rules, .int D_isOpen, .ref a_D_makes, .ref a_D_starts, .ref a_D_told, .int D_all, .ref a_D_row, .int D_length, .ref a_D_many, .ref a_D_ways, .ref a_D_base, .int D_isFound, .int D_foundLimit, .int D_nodes, .ref a_D_ruleOf, .ref a_D_sortAt, .ref a_D_from, .ref a_D_upTo, .ref a_D_firsts, .ref a_D_parts, .ref a_D_variables, .ref a_D_order, .ref a_D_pile, .ref a_D_next])), (a_D_types, .inl (cI, 1000, .inl D_types)), (a_D_sortOf, .inl (cI, 1000, .inl D_sortOf)), (a_D_makes, .inl (cI, 1500, .inl D_makes)), (a_D_starts, .inl (cI, 1501, .inl D_starts)), (a_D_told, .inl (cI, 30000, .inl D_told)), (a_D_row, .inl (cI, 59, .inl D_row)), (a_D_many, .inl (cB, 360000, .inl o.1)), (a_D_ways, .inl (cB, 1890100, .inl o.2.1)), (a_D_base, .inl (cI, 100, .inl o.2.2.1)), (a_D_next, .inl (cI, 12000, .inl o.2.2.2))] t.heap ∧ va_D (va_A [(a_D, .inr (6, [.int D_symbols, .ref a_D_types, .ref a_D_sortOf, .int D_sorts, .int D_rules, .int D_isOpen, .ref a_D_makes, .ref a_D_starts, .ref a_D_told, .int D_all, .ref a_D_row, .int D_length, .ref a_D_many, .ref a_D_ways, .ref a_D_base, .int D_isFound, .int D_foundLimit, .int D_nodes, .ref a_D_ruleOf, .ref a_D_sortAt, .ref a_D_from, .ref a_D_upTo, .ref a_D_firsts, .ref a_D_parts, .ref a_D_variables, .ref a_D_order, .ref a_D_pile, .ref a_D_next])), (a_D_types, .inl (cI, 1000, .inl D_types)), (a_D_sortOf, .inl (cI, 1000, .inl D_sortOf)), (a_D_makes, .inl (cI, 1500, .inl D_makes)), (a_D_starts, .inl (cI, 1501, .inl D_starts)), (a_D_told, .inl (cI, 30000, .inl D_told)), (a_D_row, .inl (cI, 59, .inl D_row)), (a_D_many, .inl (cB, 360000, .inl D_many)), (a_D_ways, .inl (cB, 1890100, .inl D_ways)), (a_D_base, .inl (cI, 100, .inl D_base)), (a_D_next, .inl (cI, 12000, .inl D_next))] sz) [(a_D, .inr (6, [.int D_symbols, .ref a_D_types, .ref a_D_sortOf, .int D_sorts, .int D_rules, .int D_isOpen, .ref a_D_makes, .ref a_D_starts, .ref a_D_told, .int D_all, .ref a_D_row, .int D_length, .ref a_D_many, .ref a_D_ways, .ref a_D_base, .int D_isFound, .int D_foundLimit, .int D_nodes, .ref a_D_ruleOf, .ref a_D_sortAt, .ref a_D_from, .ref a_D_upTo, .ref a_D_firsts, .ref a_D_parts, .ref a_D_variables, .ref a_D_order, .ref a_D_pile, .ref a_D_next])), (a_D_types, .inl (cI, 1000, .inl D_types)), (a_D_sortOf, .inl (cI, 1000, .inl D_sortOf)), (a_D_makes, .inl (cI, 1500, .inl D_makes)), (a_D_starts, .inl (cI, 1501, .inl D_starts)), (a_D_told, .inl (cI, 30000, .inl D_told)), (a_D_row, .inl (cI, 59, .inl D_row)), (a_D_many, .inl (cB, 360000, .inl o.1)), (a_D_ways, .inl (cB, 1890100, .inl o.2.1)), (a_D_base, .inl (cI, 100, .inl o.2.2.1)), (a_D_next, .inl (cI, 12000, .inl o.2.2.2))]) (va_A [(a_D, .inr (6, [.int D_symbols, .ref a_D_types, .ref a_D_sortOf, .int D_sorts, .int D_rules, .int D_isOpen, .ref a_D_makes, .ref a_D_starts, .ref a_D_told, .int D_all, .ref a_D_row, .int D_length, .ref a_D_many, .ref a_D_ways, .ref a_D_base, .int D_isFound, .int D_foundLimit, .int D_nodes, .ref a_D_ruleOf, .ref a_D_sortAt, .ref a_D_from, .ref a_D_upTo, .ref a_D_firsts, .ref a_D_parts, .ref a_D_variables, .ref a_D_order, .ref a_D_pile, .ref a_D_next])), (a_D_types, .inl (cI, 1000, .inl D_types)), (a_D_sortOf, .inl (cI, 1000, .inl D_sortOf)), (a_D_makes, .inl (cI, 1500, .inl D_makes)), (a_D_starts, .inl (cI, 1501, .inl D_starts)), (a_D_told, .inl (cI, 30000, .inl D_told)), (a_D_row, .inl (cI, 59, .inl D_row)), (a_D_many, .inl (cB, 360000, .inl D_many)), (a_D_ways, .inl (cB, 1890100, .inl D_ways)), (a_D_base, .inl (cI, 100, .inl D_base)), (a_D_next, .inl (cI, 12000, .inl D_next))] sz)) 0 0 (va_A [(a_D, .inr (6, [.int D_symbols, .ref a_D_types, .ref a_D_sortOf, .int D_sorts, .int D_rules, .int D_isOpen, .ref a_D_makes, .ref a_D_starts, .ref a_D_told, .int D_all, .ref a_D_row, .int D_length, .ref a_D_many, .ref a_D_ways, .ref a_D_base, .int D_isFound, .int D_foundLimit, .int D_nodes, .ref a_D_ruleOf, .ref a_D_sortAt, .ref a_D_from, .ref a_D_upTo, .ref a_D_firsts, .ref a_D_parts, .ref a_D_variables, .ref a_D_order, .ref a_D_pile, .ref a_D_next])), (a_D_types, .inl (cI, 1000, .inl D_types)), (a_D_sortOf, .inl (cI, 1000, .inl D_sortOf)), (a_D_makes, .inl (cI, 1500, .inl D_makes)), (a_D_starts, .inl (cI, 1501, .inl D_starts)), (a_D_told, .inl (cI, 30000, .inl D_told)), (a_D_row, .inl (cI, 59, .inl D_row)), (a_D_many, .inl (cB, 360000, .inl D_many)), (a_D_ways, .inl (cB, 1890100, .inl D_ways)), (a_D_base, .inl (cI, 100, .inl D_base)), (a_D_next, .inl (cI, 12000, .inl D_next))] sz) := by
  refine Met.ofW (cc := b_Ref_stretch) (maxL := 9) (ret := none) (by decide +kernel) rfl ?_
  intro p e s m args below meth c s₁ B hml hv
  obtain ⟨rfl, hsz, hP, hK, hD0⟩ := hv
  have hx := B.exec
  have hb := B.bytes
  have hr := B.returns
  have hts := atoms_spec (ws := w_Ref_stretch) B.pre
  have hown : s.vm.findClass "SyntaxTreesModel" = some m.cls := findClass_of_methodNamed B.named
  have hlocks := B.notSynchronized
  subst hsz
  have hD := hD0.self (sz := s.heap.size)
  generalize hAe : va_A [(a_D, .inr (6, [.int D_symbols, .ref a_D_types, .ref a_D_sortOf, .int D_sorts, .int D_rules, .int D_isOpen, .ref a_D_makes, .ref a_D_starts, .ref a_D_told, .int D_all, .ref a_D_row, .int D_length, .ref a_D_many, .ref a_D_ways, .ref a_D_base, .int D_isFound, .int D_foundLimit, .int D_nodes, .ref a_D_ruleOf, .ref a_D_sortAt, .ref a_D_from, .ref a_D_upTo, .ref a_D_firsts, .ref a_D_parts, .ref a_D_variables, .ref a_D_order, .ref a_D_pile, .ref a_D_next])), (a_D_types, .inl (cI, 1000, .inl D_types)), (a_D_sortOf, .inl (cI, 1000, .inl D_sortOf)), (a_D_makes, .inl (cI, 1500, .inl D_makes)), (a_D_starts, .inl (cI, 1501, .inl D_starts)), (a_D_told, .inl (cI, 30000, .inl D_told)), (a_D_row, .inl (cI, 59, .inl D_row)), (a_D_many, .inl (cB, 360000, .inl D_many)), (a_D_ways, .inl (cB, 1890100, .inl D_ways)), (a_D_base, .inl (cI, 100, .inl D_base)), (a_D_next, .inl (cI, 12000, .inl D_next))] s.heap.size = A at hD ⊢
  have hA : ∀ q : Nat, s.heap.size ≤ q → A q := fun q h => by rw [← hAe]; exact Or.inr h
  have hS : va_S A s.heap s.heap [] := va_S.rf
  have hP : va_P (dC, dI) vwCl [(a_D, .inr (6, [.int D_symbols, .ref a_D_types, .ref a_D_sortOf, .int D_sorts, .int D_rules, .int D_isOpen, .ref a_D_makes, .ref a_D_starts, .ref a_D_told, .int D_all, .ref a_D_row, .int D_length, .ref a_D_many, .ref a_D_ways, .ref a_D_base, .int D_isFound, .int D_foundLimit, .int D_nodes, .ref a_D_ruleOf, .ref a_D_sortAt, .ref a_D_from, .ref a_D_upTo, .ref a_D_firsts, .ref a_D_parts, .ref a_D_variables, .ref a_D_order, .ref a_D_pile, .ref a_D_next])), (a_D_types, .inl (cI, 1000, .inl D_types)), (a_D_sortOf, .inl (cI, 1000, .inl D_sortOf)), (a_D_makes, .inl (cI, 1500, .inl D_makes)), (a_D_starts, .inl (cI, 1501, .inl D_starts)), (a_D_told, .inl (cI, 30000, .inl D_told)), (a_D_row, .inl (cI, 59, .inl D_row)), (a_D_many, .inl (cB, 360000, .inl D_many)), (a_D_ways, .inl (cB, 1890100, .inl D_ways)), (a_D_base, .inl (cI, 100, .inl D_base)), (a_D_next, .inl (cI, 12000, .inl D_next))] s.heap := hP
  have hl := lv_entry ([.ref a_D, .int p1, .int p2, .int p3]) (n := 9) (Nat.le_of_ble_eq_true rfl)
  rw [lg_entry_eq]
  generalize (lg_sl ([.ref a_D, .int p1, .int p2, .int p3]) ++ List.replicate (9 - (lg_sl ([.ref a_D, .int p1, .int p2, .int p3])).length) Slot.unset).toArray = ls at hl ⊢
  have hl : lv_has ls 9 [(0, .ref a_D), (1, .int p1), (2, .int p2), (3, .int p3)] := hl
  refine x_Q (fun Q hQ => ?_)
  unfold f_Ref_stretch at hf
  refine lv_iconst (v := (0 : Int32)) hx hb d_Ref_stretch_0 (by decide +kernel) ?_
  refine lv_istore (lv' := [(4, .int (0 : Int32)), (0, .ref a_D), (1, .int p1), (2, .int p2), (3, .int p3)]) hx hb d_Ref_stretch_1 hl (by decide +kernel) rfl (fun ls hl => ?_)
  obtain ⟨x1, hx1, hf⟩ := x_bd hf
  refine w_Ref_stretch_L3 n p1 p2 p3 D_symbols D_sorts D_rules D_isOpen D_all D_length D_isFound D_foundLimit D_nodes D_types D_sortOf D_makes D_starts D_told D_row D_many D_ways D_next hx hb hml hown hts hK hA n (0 : Int32) D_base x1 _ _ ls hx1 hP hD hS (lv_sub hl [0, 1, 2, 3, 4] rfl) (fun H locs ls hP hD hS hl => ?_)
  refine lv_aload_n hx hb d_Ref_stretch_26 rfl (lv_at hl 1 rfl) ?_
  refine va_get (D := (dC, dI)) (ci := 6) (v := .ref a_D_row) (C := "SyntaxTreesModel") (T := F_Ref) (N := 28) hx hb hts (fun w h => List.mem_cons_of_mem _ (in_Ref w h)) hown hK.1 hP 0 rfl rfl 10 (by decide +kernel) (hts _ (List.mem_cons_of_mem _ m_517)) (fun _ h9 => h9) rfl d_Ref_stretch_27 ?_
  refine lv_iload_n hx hb d_Ref_stretch_30 rfl (lv_at hl 2 rfl) ?_
  obtain ⟨h2, hf⟩ := x_gd hf
  refine va_iald hx hb hK.1 hP 6 0 rfl rfl h2 d_Ref_stretch_31 ?_
  refine lv_istore (lv' := [(4, .int (D_row p1.toNatClampNeg)), (0, .ref a_D), (1, .int p1), (2, .int p2), (3, .int p3)]) hx hb d_Ref_stretch_32 hl (by decide +kernel) rfl (fun ls hl => ?_)
  refine lv_iload_n hx hb d_Ref_stretch_34 rfl (lv_at hl 3 rfl) ?_
  refine lv_iload_n hx hb d_Ref_stretch_35 rfl (lv_at hl 2 rfl) ?_
  refine lv_iconst (v := (1 : Int32)) hx hb d_Ref_stretch_36 (by decide +kernel) ?_
  refine lv_iadd hx hb d_Ref_stretch_37 ?_
  refine lv_icmp_ne (tgt := 70) hx hb d_Ref_stretch_38 (by decide +kernel) (fun c3 => ?_) (fun c3 => ?_)
  · have hf := x_neg c3 hf
    refine lv_iconst (v := (0 : Int32)) hx hb d_Ref_stretch_70 (by decide +kernel) ?_
    refine lv_istore (lv' := [(5, .int (0 : Int32)), (4, .int (D_row p1.toNatClampNeg)), (0, .ref a_D), (1, .int p1), (2, .int p2), (3, .int p3)]) hx hb d_Ref_stretch_71 hl (by decide +kernel) rfl (fun ls hl => ?_)
    obtain ⟨x4, hx4, hf⟩ := x_bd hf
    refine w_Ref_stretch_L73 n p1 p2 p3 D_symbols D_sorts D_rules D_isOpen D_all D_length D_isFound D_foundLimit D_nodes D_types D_sortOf D_makes D_starts D_told D_row D_many D_next hx hb hml hown hts hK hA n (0 : Int32) D_ways x1.2 x4 _ _ ls hx4 hP hD hS (lv_sub hl [0, 2, 3, 4, 5] rfl) (fun H locs ls hP hD hS hl => ?_)
    refine lv_aload_n hx hb d_Ref_stretch_230 rfl (lv_at hl 1 rfl) ?_
    refine lv_iload_n hx hb d_Ref_stretch_231 rfl (lv_at hl 2 rfl) ?_
    refine lv_iload_n hx hb d_Ref_stretch_232 rfl (lv_at hl 3 rfl) ?_
    refine lv_iload_n hx hb d_Ref_stretch_233 rfl (lv_at hl 4 rfl) ?_
    obtain ⟨x5, hx5, hf⟩ := x_bd hf
    refine x_wrvV (As := [.int p1, .int p2, .int p3]) (rest := []) (wc := [(a_D, .inr (6, [.int D_symbols, .ref a_D_types, .ref a_D_sortOf, .int D_sorts, .int D_rules, .int D_isOpen, .ref a_D_makes, .ref a_D_starts, .ref a_D_told, .int D_all, .ref a_D_row, .int D_length, .ref a_D_many, .ref a_D_ways, .ref a_D_base, .int D_isFound, .int D_foundLimit, .int D_nodes, .ref a_D_ruleOf, .ref a_D_sortAt, .ref a_D_from, .ref a_D_upTo, .ref a_D_firsts, .ref a_D_parts, .ref a_D_variables, .ref a_D_order, .ref a_D_pile, .ref a_D_next])), (a_D_types, .inl (cI, 1000, .inl D_types)), (a_D_sortOf, .inl (cI, 1000, .inl D_sortOf)), (a_D_makes, .inl (cI, 1500, .inl D_makes)), (a_D_starts, .inl (cI, 1501, .inl D_starts)), (a_D_told, .inl (cI, 30000, .inl D_told)), (a_D_many, .inl (cB, 360000, .inl D_many)), (a_D_base, .inl (cI, 100, .inl x4.2.2)), (a_D_next, .inl (cI, 12000, .inl D_next))]) (wr := [(a_D_row, .inl (cI, 59, .inl D_row)), (a_D_ways, .inl (cB, 1890100, .inl x4.2.1))]) (w1 := [(a_D, .inr (6, [.int D_symbols, .ref a_D_types, .ref a_D_sortOf, .int D_sorts, .int D_rules, .int D_isOpen, .ref a_D_makes, .ref a_D_starts, .ref a_D_told, .int D_all, .ref a_D_row, .int D_length, .ref a_D_many, .ref a_D_ways, .ref a_D_base, .int D_isFound, .int D_foundLimit, .int D_nodes, .ref a_D_ruleOf, .ref a_D_sortAt, .ref a_D_from, .ref a_D_upTo, .ref a_D_firsts, .ref a_D_parts, .ref a_D_variables, .ref a_D_order, .ref a_D_pile, .ref a_D_next])), (a_D_types, .inl (cI, 1000, .inl D_types)), (a_D_sortOf, .inl (cI, 1000, .inl D_sortOf)), (a_D_makes, .inl (cI, 1500, .inl D_makes)), (a_D_starts, .inl (cI, 1501, .inl D_starts)), (a_D_told, .inl (cI, 30000, .inl D_told)), (a_D_many, .inl (cB, 360000, .inl x5.1)), (a_D_base, .inl (cI, 100, .inl x4.2.2)), (a_D_next, .inl (cI, 12000, .inl x5.2))]) (wf := [(a_D, .inr (6, [.int D_symbols, .ref a_D_types, .ref a_D_sortOf, .int D_sorts, .int D_rules, .int D_isOpen, .ref a_D_makes, .ref a_D_starts, .ref a_D_told, .int D_all, .ref a_D_row, .int D_length, .ref a_D_many, .ref a_D_ways, .ref a_D_base, .int D_isFound, .int D_foundLimit, .int D_nodes, .ref a_D_ruleOf, .ref a_D_sortAt, .ref a_D_from, .ref a_D_upTo, .ref a_D_firsts, .ref a_D_parts, .ref a_D_variables, .ref a_D_order, .ref a_D_pile, .ref a_D_next])), (a_D_types, .inl (cI, 1000, .inl D_types)), (a_D_sortOf, .inl (cI, 1000, .inl D_sortOf)), (a_D_makes, .inl (cI, 1500, .inl D_makes)), (a_D_starts, .inl (cI, 1501, .inl D_starts)), (a_D_told, .inl (cI, 30000, .inl D_told)), (a_D_row, .inl (cI, 59, .inl D_row)), (a_D_many, .inl (cB, 360000, .inl x5.1)), (a_D_ways, .inl (cB, 1890100, .inl x4.2.1)), (a_D_base, .inl (cI, 100, .inl x4.2.2)), (a_D_next, .inl (cI, 12000, .inl x5.2))]) ⟨hx, hb, hml, hown, hts⟩ (c_Ref_unite l dC dI cI cJ cB a_D a_D_types a_D_sortOf a_D_makes a_D_starts a_D_told a_D_row a_D_many a_D_ways a_D_base a_D_ruleOf a_D_sortAt a_D_from a_D_upTo a_D_firsts a_D_parts a_D_variables a_D_order a_D_pile a_D_next D_symbols D_sorts D_rules D_isOpen D_all D_length D_isFound D_foundLimit D_nodes D_types D_sortOf D_makes D_starts D_told D_many x4.2.2 D_next p1 p2 p3 H.size n x5 hx5) (cwV 3 hts (x_gV m_626 m_627 m_36 m_48 m_628) rfl rfl rfl hd_Ref_unite ⟨Nat.le_of_ble_eq_true rfl, Nat.le_of_ble_eq_true rfl⟩) hK hP hD hS hA [0, 1, 2, 3, 4, 5, 7, 9, 10] [6, 8] [2, 3, 4, 5, 6, 7, 0, 8, 1, 9, 10] rfl rfl rfl (by decide +kernel) (by decide +kernel) (by decide +kernel) (by decide +kernel) (ci := 6) (q0 := 0) rfl rfl rfl rfl hl.1 rfl (Nat.le_of_ble_eq_true rfl) d_Ref_stretch_234 ⟨Nat.le_of_ble_eq_true rfl, Nat.le_of_ble_eq_true rfl⟩ (fun H locs hP hD hS => ?_)
    refine lv_iconst (v := (0 : Int32)) hx hb d_Ref_stretch_237 (by decide +kernel) ?_
    refine lv_istore (lv' := [(5, .int (0 : Int32)), (0, .ref a_D), (1, .int p1), (2, .int p2), (3, .int p3)]) hx hb d_Ref_stretch_238 hl (by decide +kernel) rfl (fun ls hl => ?_)
    obtain ⟨x6, hx6, hf⟩ := x_bd hf
    refine w_Ref_stretch_L240 n p1 p2 p3 D_symbols D_sorts D_rules D_isOpen D_all D_length D_isFound D_foundLimit D_nodes D_types D_sortOf D_makes D_starts D_told D_row x5.1 x4.2.2 x5.2 hx hb hml hown hts hK hA n (0 : Int32) x4.2.1 x6 _ _ ls hx6 hP hD hS (lv_sub hl [0, 1, 2, 3, 4] rfl) (fun H locs ls hP hD hS hl => ?_)
    cases hf
    subst hQ
    exact W.vret hx hb hr (fun t ht _ => ⟨⟨(), rfl, trivial, by rw [ht]; exact hP, hD⟩, hS.F ht⟩) hS.2.2 d_Ref_stretch_321
  · have hf := x_pos c3 hf
    refine lv_aload_n hx hb d_Ref_stretch_41 rfl (lv_at hl 1 rfl) ?_
    refine va_get (D := (dC, dI)) (ci := 6) (v := .ref a_D_types) (C := "SyntaxTreesModel") (T := F_Ref) (N := 28) hx hb hts (fun w h => List.mem_cons_of_mem _ (in_Ref w h)) hown hK.1 hP 0 rfl rfl 1 (by decide +kernel) (hts _ (List.mem_cons_of_mem _ m_508)) (fun _ h9 => h9) rfl d_Ref_stretch_42 ?_
    refine lv_iload hx hb d_Ref_stretch_45 (lv_at hl 0 rfl) ?_
    obtain ⟨h7, hf⟩ := x_gd hf
    refine va_iald hx hb hK.1 hP 1 0 rfl rfl h7 d_Ref_stretch_47 ?_
    refine lv_iconst (v := (-1 : Int32)) hx hb d_Ref_stretch_48 (by decide +kernel) ?_
    refine lv_icmp_eq (tgt := 70) hx hb d_Ref_stretch_49 (by decide +kernel) (fun c8 => ?_) (fun c8 => ?_)
    · have hf := x_pos c8 hf
      refine lv_iconst (v := (0 : Int32)) hx hb d_Ref_stretch_70 (by decide +kernel) ?_
      refine lv_istore (lv' := [(5, .int (0 : Int32)), (4, .int (D_row p1.toNatClampNeg)), (0, .ref a_D), (1, .int p1), (2, .int p2), (3, .int p3)]) hx hb d_Ref_stretch_71 hl (by decide +kernel) rfl (fun ls hl => ?_)
      obtain ⟨x9, hx9, hf⟩ := x_bd hf
      refine w_Ref_stretch_L73 n p1 p2 p3 D_symbols D_sorts D_rules D_isOpen D_all D_length D_isFound D_foundLimit D_nodes D_types D_sortOf D_makes D_starts D_told D_row D_many D_next hx hb hml hown hts hK hA n (0 : Int32) D_ways x1.2 x9 _ _ ls hx9 hP hD hS (lv_sub hl [0, 2, 3, 4, 5] rfl) (fun H locs ls hP hD hS hl => ?_)
      refine lv_aload_n hx hb d_Ref_stretch_230 rfl (lv_at hl 1 rfl) ?_
      refine lv_iload_n hx hb d_Ref_stretch_231 rfl (lv_at hl 2 rfl) ?_
      refine lv_iload_n hx hb d_Ref_stretch_232 rfl (lv_at hl 3 rfl) ?_
      refine lv_iload_n hx hb d_Ref_stretch_233 rfl (lv_at hl 4 rfl) ?_
      obtain ⟨x10, hx10, hf⟩ := x_bd hf
      refine x_wrvV (As := [.int p1, .int p2, .int p3]) (rest := []) (wc := [(a_D, .inr (6, [.int D_symbols, .ref a_D_types, .ref a_D_sortOf, .int D_sorts, .int D_rules, .int D_isOpen, .ref a_D_makes, .ref a_D_starts, .ref a_D_told, .int D_all, .ref a_D_row, .int D_length, .ref a_D_many, .ref a_D_ways, .ref a_D_base, .int D_isFound, .int D_foundLimit, .int D_nodes, .ref a_D_ruleOf, .ref a_D_sortAt, .ref a_D_from, .ref a_D_upTo, .ref a_D_firsts, .ref a_D_parts, .ref a_D_variables, .ref a_D_order, .ref a_D_pile, .ref a_D_next])), (a_D_types, .inl (cI, 1000, .inl D_types)), (a_D_sortOf, .inl (cI, 1000, .inl D_sortOf)), (a_D_makes, .inl (cI, 1500, .inl D_makes)), (a_D_starts, .inl (cI, 1501, .inl D_starts)), (a_D_told, .inl (cI, 30000, .inl D_told)), (a_D_many, .inl (cB, 360000, .inl D_many)), (a_D_base, .inl (cI, 100, .inl x9.2.2)), (a_D_next, .inl (cI, 12000, .inl D_next))]) (wr := [(a_D_row, .inl (cI, 59, .inl D_row)), (a_D_ways, .inl (cB, 1890100, .inl x9.2.1))]) (w1 := [(a_D, .inr (6, [.int D_symbols, .ref a_D_types, .ref a_D_sortOf, .int D_sorts, .int D_rules, .int D_isOpen, .ref a_D_makes, .ref a_D_starts, .ref a_D_told, .int D_all, .ref a_D_row, .int D_length, .ref a_D_many, .ref a_D_ways, .ref a_D_base, .int D_isFound, .int D_foundLimit, .int D_nodes, .ref a_D_ruleOf, .ref a_D_sortAt, .ref a_D_from, .ref a_D_upTo, .ref a_D_firsts, .ref a_D_parts, .ref a_D_variables, .ref a_D_order, .ref a_D_pile, .ref a_D_next])), (a_D_types, .inl (cI, 1000, .inl D_types)), (a_D_sortOf, .inl (cI, 1000, .inl D_sortOf)), (a_D_makes, .inl (cI, 1500, .inl D_makes)), (a_D_starts, .inl (cI, 1501, .inl D_starts)), (a_D_told, .inl (cI, 30000, .inl D_told)), (a_D_many, .inl (cB, 360000, .inl x10.1)), (a_D_base, .inl (cI, 100, .inl x9.2.2)), (a_D_next, .inl (cI, 12000, .inl x10.2))]) (wf := [(a_D, .inr (6, [.int D_symbols, .ref a_D_types, .ref a_D_sortOf, .int D_sorts, .int D_rules, .int D_isOpen, .ref a_D_makes, .ref a_D_starts, .ref a_D_told, .int D_all, .ref a_D_row, .int D_length, .ref a_D_many, .ref a_D_ways, .ref a_D_base, .int D_isFound, .int D_foundLimit, .int D_nodes, .ref a_D_ruleOf, .ref a_D_sortAt, .ref a_D_from, .ref a_D_upTo, .ref a_D_firsts, .ref a_D_parts, .ref a_D_variables, .ref a_D_order, .ref a_D_pile, .ref a_D_next])), (a_D_types, .inl (cI, 1000, .inl D_types)), (a_D_sortOf, .inl (cI, 1000, .inl D_sortOf)), (a_D_makes, .inl (cI, 1500, .inl D_makes)), (a_D_starts, .inl (cI, 1501, .inl D_starts)), (a_D_told, .inl (cI, 30000, .inl D_told)), (a_D_row, .inl (cI, 59, .inl D_row)), (a_D_many, .inl (cB, 360000, .inl x10.1)), (a_D_ways, .inl (cB, 1890100, .inl x9.2.1)), (a_D_base, .inl (cI, 100, .inl x9.2.2)), (a_D_next, .inl (cI, 12000, .inl x10.2))]) ⟨hx, hb, hml, hown, hts⟩ (c_Ref_unite l dC dI cI cJ cB a_D a_D_types a_D_sortOf a_D_makes a_D_starts a_D_told a_D_row a_D_many a_D_ways a_D_base a_D_ruleOf a_D_sortAt a_D_from a_D_upTo a_D_firsts a_D_parts a_D_variables a_D_order a_D_pile a_D_next D_symbols D_sorts D_rules D_isOpen D_all D_length D_isFound D_foundLimit D_nodes D_types D_sortOf D_makes D_starts D_told D_many x9.2.2 D_next p1 p2 p3 H.size n x10 hx10) (cwV 3 hts (x_gV m_626 m_627 m_36 m_48 m_628) rfl rfl rfl hd_Ref_unite ⟨Nat.le_of_ble_eq_true rfl, Nat.le_of_ble_eq_true rfl⟩) hK hP hD hS hA [0, 1, 2, 3, 4, 5, 7, 9, 10] [6, 8] [2, 3, 4, 5, 6, 7, 0, 8, 1, 9, 10] rfl rfl rfl (by decide +kernel) (by decide +kernel) (by decide +kernel) (by decide +kernel) (ci := 6) (q0 := 0) rfl rfl rfl rfl hl.1 rfl (Nat.le_of_ble_eq_true rfl) d_Ref_stretch_234 ⟨Nat.le_of_ble_eq_true rfl, Nat.le_of_ble_eq_true rfl⟩ (fun H locs hP hD hS => ?_)
      refine lv_iconst (v := (0 : Int32)) hx hb d_Ref_stretch_237 (by decide +kernel) ?_
      refine lv_istore (lv' := [(5, .int (0 : Int32)), (0, .ref a_D), (1, .int p1), (2, .int p2), (3, .int p3)]) hx hb d_Ref_stretch_238 hl (by decide +kernel) rfl (fun ls hl => ?_)
      obtain ⟨x11, hx11, hf⟩ := x_bd hf
      refine w_Ref_stretch_L240 n p1 p2 p3 D_symbols D_sorts D_rules D_isOpen D_all D_length D_isFound D_foundLimit D_nodes D_types D_sortOf D_makes D_starts D_told D_row x10.1 x9.2.2 x10.2 hx hb hml hown hts hK hA n (0 : Int32) x9.2.1 x11 _ _ ls hx11 hP hD hS (lv_sub hl [0, 1, 2, 3, 4] rfl) (fun H locs ls hP hD hS hl => ?_)
      cases hf
      subst hQ
      exact W.vret hx hb hr (fun t ht _ => ⟨⟨(), rfl, trivial, by rw [ht]; exact hP, hD⟩, hS.F ht⟩) hS.2.2 d_Ref_stretch_321
    · have hf := x_neg c8 hf
      refine lv_aload_n hx hb d_Ref_stretch_52 rfl (lv_at hl 1 rfl) ?_
      refine va_get (D := (dC, dI)) (ci := 6) (v := .ref a_D_base) (C := "SyntaxTreesModel") (T := F_Ref) (N := 28) hx hb hts (fun w h => List.mem_cons_of_mem _ (in_Ref w h)) hown hK.1 hP 0 rfl rfl 14 (by decide +kernel) (hts _ (List.mem_cons_of_mem _ m_521)) (fun _ h9 => h9) rfl d_Ref_stretch_53 ?_
      refine lv_aload_n hx hb d_Ref_stretch_56 rfl (lv_at hl 1 rfl) ?_
      refine va_get (D := (dC, dI)) (ci := 6) (v := .ref a_D_sortOf) (C := "SyntaxTreesModel") (T := F_Ref) (N := 28) hx hb hts (fun w h => List.mem_cons_of_mem _ (in_Ref w h)) hown hK.1 hP 0 rfl rfl 2 (by decide +kernel) (hts _ (List.mem_cons_of_mem _ m_509)) (fun _ h9 => h9) rfl d_Ref_stretch_57 ?_
      refine lv_aload_n hx hb d_Ref_stretch_60 rfl (lv_at hl 1 rfl) ?_
      refine va_get (D := (dC, dI)) (ci := 6) (v := .ref a_D_types) (C := "SyntaxTreesModel") (T := F_Ref) (N := 28) hx hb hts (fun w h => List.mem_cons_of_mem _ (in_Ref w h)) hown hK.1 hP 0 rfl rfl 1 (by decide +kernel) (hts _ (List.mem_cons_of_mem _ m_508)) (fun _ h9 => h9) rfl d_Ref_stretch_61 ?_
      refine lv_iload hx hb d_Ref_stretch_64 (lv_at hl 0 rfl) ?_
      obtain ⟨h12, hf⟩ := x_gd hf
      refine va_iald hx hb hK.1 hP 1 0 rfl rfl h12 d_Ref_stretch_66 ?_
      obtain ⟨h13, hf⟩ := x_gd hf
      refine va_iald hx hb hK.1 hP 2 0 rfl rfl h13 d_Ref_stretch_67 ?_
      refine lv_iconst (v := (1 : Int32)) hx hb d_Ref_stretch_68 (by decide +kernel) ?_
      obtain ⟨h14, hf⟩ := x_gd hf
      refine x_iast (w1 := [(a_D, .inr (6, [.int D_symbols, .ref a_D_types, .ref a_D_sortOf, .int D_sorts, .int D_rules, .int D_isOpen, .ref a_D_makes, .ref a_D_starts, .ref a_D_told, .int D_all, .ref a_D_row, .int D_length, .ref a_D_many, .ref a_D_ways, .ref a_D_base, .int D_isFound, .int D_foundLimit, .int D_nodes, .ref a_D_ruleOf, .ref a_D_sortAt, .ref a_D_from, .ref a_D_upTo, .ref a_D_firsts, .ref a_D_parts, .ref a_D_variables, .ref a_D_order, .ref a_D_pile, .ref a_D_next])), (a_D_types, .inl (cI, 1000, .inl D_types)), (a_D_sortOf, .inl (cI, 1000, .inl D_sortOf)), (a_D_makes, .inl (cI, 1500, .inl D_makes)), (a_D_starts, .inl (cI, 1501, .inl D_starts)), (a_D_told, .inl (cI, 30000, .inl D_told)), (a_D_row, .inl (cI, 59, .inl D_row)), (a_D_many, .inl (cB, 360000, .inl D_many)), (a_D_ways, .inl (cB, 1890100, .inl D_ways)), (a_D_base, .inl (cI, 100, .inl (upd x1.2 (D_sortOf (D_types (D_row p1.toNatClampNeg).toNatClampNeg).toNatClampNeg).toNatClampNeg (1 : Int32)))), (a_D_next, .inl (cI, 12000, .inl D_next))]) hx hb hK.1 hP hD hS 9 0 rfl rfl h14 d_Ref_stretch_69 rfl (fun H locs hP hD hS => ?_)
      refine lv_iconst (v := (0 : Int32)) hx hb d_Ref_stretch_70 (by decide +kernel) ?_
      refine lv_istore (lv' := [(5, .int (0 : Int32)), (4, .int (D_row p1.toNatClampNeg)), (0, .ref a_D), (1, .int p1), (2, .int p2), (3, .int p3)]) hx hb d_Ref_stretch_71 hl (by decide +kernel) rfl (fun ls hl => ?_)
      obtain ⟨x15, hx15, hf⟩ := x_bd hf
      refine w_Ref_stretch_L73 n p1 p2 p3 D_symbols D_sorts D_rules D_isOpen D_all D_length D_isFound D_foundLimit D_nodes D_types D_sortOf D_makes D_starts D_told D_row D_many D_next hx hb hml hown hts hK hA n (0 : Int32) D_ways (upd x1.2 (D_sortOf (D_types (D_row p1.toNatClampNeg).toNatClampNeg).toNatClampNeg).toNatClampNeg (1 : Int32)) x15 _ _ ls hx15 hP hD hS (lv_sub hl [0, 2, 3, 4, 5] rfl) (fun H locs ls hP hD hS hl => ?_)
      refine lv_aload_n hx hb d_Ref_stretch_230 rfl (lv_at hl 1 rfl) ?_
      refine lv_iload_n hx hb d_Ref_stretch_231 rfl (lv_at hl 2 rfl) ?_
      refine lv_iload_n hx hb d_Ref_stretch_232 rfl (lv_at hl 3 rfl) ?_
      refine lv_iload_n hx hb d_Ref_stretch_233 rfl (lv_at hl 4 rfl) ?_
      obtain ⟨x16, hx16, hf⟩ := x_bd hf
      refine x_wrvV (As := [.int p1, .int p2, .int p3]) (rest := []) (wc := [(a_D, .inr (6, [.int D_symbols, .ref a_D_types, .ref a_D_sortOf, .int D_sorts, .int D_rules, .int D_isOpen, .ref a_D_makes, .ref a_D_starts, .ref a_D_told, .int D_all, .ref a_D_row, .int D_length, .ref a_D_many, .ref a_D_ways, .ref a_D_base, .int D_isFound, .int D_foundLimit, .int D_nodes, .ref a_D_ruleOf, .ref a_D_sortAt, .ref a_D_from, .ref a_D_upTo, .ref a_D_firsts, .ref a_D_parts, .ref a_D_variables, .ref a_D_order, .ref a_D_pile, .ref a_D_next])), (a_D_types, .inl (cI, 1000, .inl D_types)), (a_D_sortOf, .inl (cI, 1000, .inl D_sortOf)), (a_D_makes, .inl (cI, 1500, .inl D_makes)), (a_D_starts, .inl (cI, 1501, .inl D_starts)), (a_D_told, .inl (cI, 30000, .inl D_told)), (a_D_many, .inl (cB, 360000, .inl D_many)), (a_D_base, .inl (cI, 100, .inl x15.2.2)), (a_D_next, .inl (cI, 12000, .inl D_next))]) (wr := [(a_D_row, .inl (cI, 59, .inl D_row)), (a_D_ways, .inl (cB, 1890100, .inl x15.2.1))]) (w1 := [(a_D, .inr (6, [.int D_symbols, .ref a_D_types, .ref a_D_sortOf, .int D_sorts, .int D_rules, .int D_isOpen, .ref a_D_makes, .ref a_D_starts, .ref a_D_told, .int D_all, .ref a_D_row, .int D_length, .ref a_D_many, .ref a_D_ways, .ref a_D_base, .int D_isFound, .int D_foundLimit, .int D_nodes, .ref a_D_ruleOf, .ref a_D_sortAt, .ref a_D_from, .ref a_D_upTo, .ref a_D_firsts, .ref a_D_parts, .ref a_D_variables, .ref a_D_order, .ref a_D_pile, .ref a_D_next])), (a_D_types, .inl (cI, 1000, .inl D_types)), (a_D_sortOf, .inl (cI, 1000, .inl D_sortOf)), (a_D_makes, .inl (cI, 1500, .inl D_makes)), (a_D_starts, .inl (cI, 1501, .inl D_starts)), (a_D_told, .inl (cI, 30000, .inl D_told)), (a_D_many, .inl (cB, 360000, .inl x16.1)), (a_D_base, .inl (cI, 100, .inl x15.2.2)), (a_D_next, .inl (cI, 12000, .inl x16.2))]) (wf := [(a_D, .inr (6, [.int D_symbols, .ref a_D_types, .ref a_D_sortOf, .int D_sorts, .int D_rules, .int D_isOpen, .ref a_D_makes, .ref a_D_starts, .ref a_D_told, .int D_all, .ref a_D_row, .int D_length, .ref a_D_many, .ref a_D_ways, .ref a_D_base, .int D_isFound, .int D_foundLimit, .int D_nodes, .ref a_D_ruleOf, .ref a_D_sortAt, .ref a_D_from, .ref a_D_upTo, .ref a_D_firsts, .ref a_D_parts, .ref a_D_variables, .ref a_D_order, .ref a_D_pile, .ref a_D_next])), (a_D_types, .inl (cI, 1000, .inl D_types)), (a_D_sortOf, .inl (cI, 1000, .inl D_sortOf)), (a_D_makes, .inl (cI, 1500, .inl D_makes)), (a_D_starts, .inl (cI, 1501, .inl D_starts)), (a_D_told, .inl (cI, 30000, .inl D_told)), (a_D_row, .inl (cI, 59, .inl D_row)), (a_D_many, .inl (cB, 360000, .inl x16.1)), (a_D_ways, .inl (cB, 1890100, .inl x15.2.1)), (a_D_base, .inl (cI, 100, .inl x15.2.2)), (a_D_next, .inl (cI, 12000, .inl x16.2))]) ⟨hx, hb, hml, hown, hts⟩ (c_Ref_unite l dC dI cI cJ cB a_D a_D_types a_D_sortOf a_D_makes a_D_starts a_D_told a_D_row a_D_many a_D_ways a_D_base a_D_ruleOf a_D_sortAt a_D_from a_D_upTo a_D_firsts a_D_parts a_D_variables a_D_order a_D_pile a_D_next D_symbols D_sorts D_rules D_isOpen D_all D_length D_isFound D_foundLimit D_nodes D_types D_sortOf D_makes D_starts D_told D_many x15.2.2 D_next p1 p2 p3 H.size n x16 hx16) (cwV 3 hts (x_gV m_626 m_627 m_36 m_48 m_628) rfl rfl rfl hd_Ref_unite ⟨Nat.le_of_ble_eq_true rfl, Nat.le_of_ble_eq_true rfl⟩) hK hP hD hS hA [0, 1, 2, 3, 4, 5, 7, 9, 10] [6, 8] [2, 3, 4, 5, 6, 7, 0, 8, 1, 9, 10] rfl rfl rfl (by decide +kernel) (by decide +kernel) (by decide +kernel) (by decide +kernel) (ci := 6) (q0 := 0) rfl rfl rfl rfl hl.1 rfl (Nat.le_of_ble_eq_true rfl) d_Ref_stretch_234 ⟨Nat.le_of_ble_eq_true rfl, Nat.le_of_ble_eq_true rfl⟩ (fun H locs hP hD hS => ?_)
      refine lv_iconst (v := (0 : Int32)) hx hb d_Ref_stretch_237 (by decide +kernel) ?_
      refine lv_istore (lv' := [(5, .int (0 : Int32)), (0, .ref a_D), (1, .int p1), (2, .int p2), (3, .int p3)]) hx hb d_Ref_stretch_238 hl (by decide +kernel) rfl (fun ls hl => ?_)
      obtain ⟨x17, hx17, hf⟩ := x_bd hf
      refine w_Ref_stretch_L240 n p1 p2 p3 D_symbols D_sorts D_rules D_isOpen D_all D_length D_isFound D_foundLimit D_nodes D_types D_sortOf D_makes D_starts D_told D_row x16.1 x15.2.2 x16.2 hx hb hml hown hts hK hA n (0 : Int32) x15.2.1 x17 _ _ ls hx17 hP hD hS (lv_sub hl [0, 1, 2, 3, 4] rfl) (fun H locs ls hP hD hS hl => ?_)
      cases hf
      subst hQ
      exact W.vret hx hb hr (fun t ht _ => ⟨⟨(), rfl, trivial, by rw [ht]; exact hP, hD⟩, hS.F ht⟩) hS.2.2 d_Ref_stretch_321
