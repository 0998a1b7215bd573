set_option maxHeartbeats 4000000 in
set_option maxRecDepth 100000 in
theorem c_Symbols_size (l : Launch) (dC : Nat → ClassId) (dI : Nat → Nat → Nat) (cI cJ cB : ClassId) (a_S a_S_types a_S_ranks a_S_typeRanks : Nat)  (S_size : Int32) (S_sorts : Int32)  (n : Nat) (o : Int32) (hf : f_Symbols_size n S_size = some o) : Met l y_Symbols_size w_Symbols_size ({ frames := 0, cells := 0, slots := 0, locals := 0 }) (va_Pc [.ref a_S] (fun U => va_P (dC, dI) vwCl [(a_S, .inr (0, [.ref a_S_types, .ref a_S_ranks, .ref a_S_typeRanks, .int S_size, .int S_sorts]))] U.heap ∧ x_K (dC, dI) [(cI, .int), (cJ, .long), (cB, .byte)] U)) (QcRead o) 0 0 (fun _ => False) := by
  refine Met.ofW (cc := b_Symbols_size) (maxL := 1) (ret := (some .int)) (by decide +kernel) rfl ?_
  intro p e s m args below meth c s₁ B hml hv
  obtain ⟨rfl, hP, hK⟩ := hv
  have hx := B.exec
  have hb := B.bytes
  have hr := B.returns
  have hts := atoms_spec (ws := w_Symbols_size) B.pre
  have hown : s.vm.findClass "SyntaxTrees$Symbols" = some m.cls := findClass_of_methodNamed B.named
  have hlocks := B.notSynchronized
  have hP : va_P (dC, dI) vwCl [(a_S, .inr (0, [.ref a_S_types, .ref a_S_ranks, .ref a_S_typeRanks, .int S_size, .int S_sorts]))] s.heap := hP
  have hl := lv_entry ([.ref a_S]) (n := 1) (Nat.le_of_ble_eq_true rfl)
  rw [lg_entry_eq]
  generalize (lg_sl ([.ref a_S]) ++ List.replicate (1 - (lg_sl ([.ref a_S])).length) Slot.unset).toArray = ls at hl ⊢
  have hl : lv_has ls 1 [(0, .ref a_S)] := hl
  refine x_Q (fun Q hQ => ?_)
  unfold f_Symbols_size at hf
  refine lv_aload_n hx hb d_Symbols_size_0 rfl (lv_at hl 0 rfl) ?_
  refine va_get (D := (dC, dI)) (ci := 0) (v := .int S_size) (C := "SyntaxTrees$Symbols") (T := F_Symbols) (N := 5) hx hb hts (fun w h => List.mem_cons_of_mem _ (in_Symbols w h)) hown hK.1 hP 0 rfl rfl 3 (by decide +kernel) (hts _ (List.mem_cons_of_mem _ m_66)) (fun _ h9 => h9) rfl d_Symbols_size_1 ?_
  cases hf
  subst hQ
  exact W.iret hx hb hr (fun t ht _ => ⟨rfl, ht⟩) (fun _ h => absurd h List.not_mem_nil) d_Symbols_size_4
set_option maxHeartbeats 4000000 in
set_option maxRecDepth 100000 in
theorem c_Symbols_sorts (l : Launch) (dC : Nat → ClassId) (dI : Nat → Nat → Nat) (cI cJ cB : ClassId) (a_S a_S_types a_S_ranks a_S_typeRanks : Nat)  (S_size : Int32) (S_sorts : Int32)  (n : Nat) (o : Int32) (hf : f_Symbols_sorts n S_sorts = some o) : Met l y_Symbols_sorts w_Symbols_sorts ({ frames := 0, cells := 0, slots := 0, locals := 0 }) (va_Pc [.ref a_S] (fun U => va_P (dC, dI) vwCl [(a_S, .inr (0, [.ref a_S_types, .ref a_S_ranks, .ref a_S_typeRanks, .int S_size, .int S_sorts]))] U.heap ∧ x_K (dC, dI) [(cI, .int), (cJ, .long), (cB, .byte)] U)) (QcRead o) 0 0 (fun _ => False) := by
  refine Met.ofW (cc := b_Symbols_sorts) (maxL := 1) (ret := (some .int)) (by decide +kernel) rfl ?_
  intro p e s m args below meth c s₁ B hml hv
  obtain ⟨rfl, hP, hK⟩ := hv
  have hx := B.exec
  have hb := B.bytes
  have hr := B.returns
  have hts := atoms_spec (ws := w_Symbols_sorts) B.pre
  have hown : s.vm.findClass "SyntaxTrees$Symbols" = some m.cls := findClass_of_methodNamed B.named
  have hlocks := B.notSynchronized
  have hP : va_P (dC, dI) vwCl [(a_S, .inr (0, [.ref a_S_types, .ref a_S_ranks, .ref a_S_typeRanks, .int S_size, .int S_sorts]))] s.heap := hP
  have hl := lv_entry ([.ref a_S]) (n := 1) (Nat.le_of_ble_eq_true rfl)
  rw [lg_entry_eq]
  generalize (lg_sl ([.ref a_S]) ++ List.replicate (1 - (lg_sl ([.ref a_S])).length) Slot.unset).toArray = ls at hl ⊢
  have hl : lv_has ls 1 [(0, .ref a_S)] := hl
  refine x_Q (fun Q hQ => ?_)
  unfold f_Symbols_sorts at hf
  refine lv_aload_n hx hb d_Symbols_sorts_0 rfl (lv_at hl 0 rfl) ?_
  refine va_get (D := (dC, dI)) (ci := 0) (v := .int S_sorts) (C := "SyntaxTrees$Symbols") (T := F_Symbols) (N := 5) hx hb hts (fun w h => List.mem_cons_of_mem _ (in_Symbols w h)) hown hK.1 hP 0 rfl rfl 4 (by decide +kernel) (hts _ (List.mem_cons_of_mem _ m_67)) (fun _ h9 => h9) rfl d_Symbols_sorts_1 ?_
  cases hf
  subst hQ
  exact W.iret hx hb hr (fun t ht _ => ⟨rfl, ht⟩) (fun _ h => absurd h List.not_mem_nil) d_Symbols_sorts_4
set_option maxHeartbeats 4000000 in
set_option maxRecDepth 100000 in
theorem c_Symbols_has (l : Launch) (dC : Nat → ClassId) (dI : Nat → Nat → Nat) (cI cJ cB : ClassId) (a_S a_S_types a_S_ranks a_S_typeRanks : Nat)  (S_size : Int32) (S_sorts : Int32) (p1 : Int32) (n : Nat) (o : Int32) (hf : f_Symbols_has n S_size p1 = some o) : Met l y_Symbols_has w_Symbols_has ({ frames := 0, cells := 0, slots := 0, locals := 0 }) (va_Pc [.ref a_S, .int p1] (fun U => va_P (dC, dI) vwCl [(a_S, .inr (0, [.ref a_S_types, .ref a_S_ranks, .ref a_S_typeRanks, .int S_size, .int S_sorts]))] U.heap ∧ x_K (dC, dI) [(cI, .int), (cJ, .long), (cB, .byte)] U)) (QcRead o) 0 0 (fun _ => False) := by
  refine Met.ofW (cc := b_Symbols_has) (maxL := 2) (ret := (some .boolean)) (by decide +kernel) rfl ?_
  intro p e s m args below meth c s₁ B hml hv
  obtain ⟨rfl, hP, hK⟩ := hv
  have hx := B.exec
  have hb := B.bytes
  have hr := B.returns
  have hts := atoms_spec (ws := w_Symbols_has) B.pre
  have hown : s.vm.findClass "SyntaxTrees$Symbols" = some m.cls := findClass_of_methodNamed B.named
  have hlocks := B.notSynchronized
  have hP : va_P (dC, dI) vwCl [(a_S, .inr (0, [.ref a_S_types, .ref a_S_ranks, .ref a_S_typeRanks, .int S_size, .int S_sorts]))] s.heap := hP
  have hl := lv_entry ([.ref a_S, .int p1]) (n := 2) (Nat.le_of_ble_eq_true rfl)
  rw [lg_entry_eq]
  generalize (lg_sl ([.ref a_S, .int p1]) ++ List.replicate (2 - (lg_sl ([.ref a_S, .int p1])).length) Slot.unset).toArray = ls at hl ⊢
  have hl : lv_has ls 2 [(0, .ref a_S), (1, .int p1)] := hl
  refine x_Q (fun Q hQ => ?_)
  unfold f_Symbols_has at hf
  refine lv_iload_n hx hb d_Symbols_has_0 rfl (lv_at hl 1 rfl) ?_
  refine lv_if_lt (tgt := 16) hx hb d_Symbols_has_1 (by decide +kernel) (fun c1 => ?_) (fun c1 => ?_)
  · have hf := x_pos c1 hf
    refine lv_iconst (v := (0 : Int32)) hx hb d_Symbols_has_16 (by decide +kernel) ?_
    cases hf
    subst hQ
    exact W.zret hx hb hr rfl (fun t ht _ => ⟨rfl, ht⟩) (fun _ h => absurd h List.not_mem_nil) d_Symbols_has_17
  · have hf := x_neg c1 hf
    refine lv_iload_n hx hb d_Symbols_has_4 rfl (lv_at hl 1 rfl) ?_
    refine lv_aload_n hx hb d_Symbols_has_5 rfl (lv_at hl 0 rfl) ?_
    refine va_get (D := (dC, dI)) (ci := 0) (v := .int S_size) (C := "SyntaxTrees$Symbols") (T := F_Symbols) (N := 5) hx hb hts (fun w h => List.mem_cons_of_mem _ (in_Symbols w h)) hown hK.1 hP 0 rfl rfl 3 (by decide +kernel) (hts _ (List.mem_cons_of_mem _ m_66)) (fun _ h9 => h9) rfl d_Symbols_has_6 ?_
    refine lv_icmp_ge (tgt := 16) hx hb d_Symbols_has_9 (by decide +kernel) (fun c2 => ?_) (fun c2 => ?_)
    · have hf := x_pos c2 hf
      refine lv_iconst (v := (0 : Int32)) hx hb d_Symbols_has_16 (by decide +kernel) ?_
      cases hf
      subst hQ
      exact W.zret hx hb hr rfl (fun t ht _ => ⟨rfl, ht⟩) (fun _ h => absurd h List.not_mem_nil) d_Symbols_has_17
    · have hf := x_neg c2 hf
      refine lv_iconst (v := (1 : Int32)) hx hb d_Symbols_has_12 (by decide +kernel) ?_
      refine lv_goto (tgt := 17) hx hb d_Symbols_has_13 (by decide +kernel) ?_
      cases hf
      subst hQ
      exact W.zret hx hb hr rfl (fun t ht _ => ⟨rfl, ht⟩) (fun _ h => absurd h List.not_mem_nil) d_Symbols_has_17
set_option maxHeartbeats 4000000 in
set_option maxRecDepth 100000 in
theorem c_Symbols_isConstant (l : Launch) (dC : Nat → ClassId) (dI : Nat → Nat → Nat) (cI cJ cB : ClassId) (a_S a_S_types a_S_ranks a_S_typeRanks : Nat)  (S_size : Int32) (S_sorts : Int32) (S_types : Nat → Int32) (p1 : Int32) (n : Nat) (o : Int32) (hf : f_Symbols_isConstant n S_size S_types p1 = some o) : Met l y_Symbols_isConstant w_Symbols_isConstant ({ frames := 1, cells := 0, slots := 0, locals := 21 }) (va_Pc [.ref a_S, .int p1] (fun U => va_P (dC, dI) vwCl [(a_S, .inr (0, [.ref a_S_types, .ref a_S_ranks, .ref a_S_typeRanks, .int S_size, .int S_sorts])), (a_S_types, .inl (cI, 1000, .inl S_types))] U.heap ∧ x_K (dC, dI) [(cI, .int), (cJ, .long), (cB, .byte)] U)) (QcRead o) 0 0 (fun _ => False) := by
  refine Met.ofW (cc := b_Symbols_isConstant) (maxL := 2) (ret := (some .boolean)) (by decide +kernel) rfl ?_
  intro p e s m args below meth c s₁ B hml hv
  obtain ⟨rfl, hP, hK⟩ := hv
  have hx := B.exec
  have hb := B.bytes
  have hr := B.returns
  have hts := atoms_spec (ws := w_Symbols_isConstant) B.pre
  have hown : s.vm.findClass "SyntaxTrees$Symbols" = some m.cls := findClass_of_methodNamed B.named
  have hlocks := B.notSynchronized
  have hP : va_P (dC, dI) vwCl [(a_S, .inr (0, [.ref a_S_types, .ref a_S_ranks, .ref a_S_typeRanks, .int S_size, .int S_sorts])), (a_S_types, .inl (cI, 1000, .inl S_types))] s.heap := hP
  have hl := lv_entry ([.ref a_S, .int p1]) (n := 2) (Nat.le_of_ble_eq_true rfl)
  rw [lg_entry_eq]
  generalize (lg_sl ([.ref a_S, .int p1]) ++ List.replicate (2 - (lg_sl ([.ref a_S, .int p1])).length) Slot.unset).toArray = ls at hl ⊢
  have hl : lv_has ls 2 [(0, .ref a_S), (1, .int p1)] := hl
  refine x_Q (fun Q hQ => ?_)
  unfold f_Symbols_isConstant at hf
  refine lv_aload_n hx hb d_Symbols_isConstant_0 rfl (lv_at hl 0 rfl) ?_
  refine lv_iload_n hx hb d_Symbols_isConstant_1 rfl (lv_at hl 1 rfl) ?_
  obtain ⟨x1, hx1, hf⟩ := x_bd hf
  refine x_rdiV (As := [.int p1]) (rest := []) (wc := [(a_S, .inr (0, [.ref a_S_types, .ref a_S_ranks, .ref a_S_typeRanks, .int S_size, .int S_sorts]))]) ⟨hx, hb, hml, hown, hts⟩ (c_Symbols_has l dC dI cI cJ cB a_S a_S_types a_S_ranks a_S_typeRanks S_size S_sorts p1 n x1 hx1) (cwV 1 hts (x_gV m_210 m_211 m_212 m_43 m_213) rfl rfl rfl hd_Symbols_has ⟨Nat.le_of_ble_eq_true rfl, Nat.le_of_ble_eq_true rfl⟩) hK hP [0] rfl (ci := 0) (q0 := 0) rfl rfl rfl rfl hl.1 rfl (Nat.le_of_ble_eq_true rfl) d_Symbols_isConstant_2 ⟨Nat.le_of_ble_eq_true rfl, Nat.le_of_ble_eq_true rfl⟩ ?_
  refine lv_if_eq (tgt := 22) hx hb d_Symbols_isConstant_5 (by decide +kernel) (fun c2 => ?_) (fun c2 => ?_)
  · have hf := x_pos c2 hf
    refine lv_iconst (v := (0 : Int32)) hx hb d_Symbols_isConstant_22 (by decide +kernel) ?_
    cases hf
    subst hQ
    exact W.zret hx hb hr rfl (fun t ht _ => ⟨rfl, ht⟩) (fun _ h => absurd h List.not_mem_nil) d_Symbols_isConstant_23
  · have hf := x_neg c2 hf
    refine lv_aload_n hx hb d_Symbols_isConstant_8 rfl (lv_at hl 0 rfl) ?_
    refine va_get (D := (dC, dI)) (ci := 0) (v := .ref a_S_types) (C := "SyntaxTrees$Symbols") (T := F_Symbols) (N := 5) hx hb hts (fun w h => List.mem_cons_of_mem _ (in_Symbols w h)) hown hK.1 hP 0 rfl rfl 0 (by decide +kernel) (hts _ (List.mem_cons_of_mem _ m_63)) (fun _ h9 => h9) rfl d_Symbols_isConstant_9 ?_
    refine lv_iload_n hx hb d_Symbols_isConstant_12 rfl (lv_at hl 1 rfl) ?_
    obtain ⟨h3, hf⟩ := x_gd hf
    refine va_iald hx hb hK.1 hP 1 0 rfl rfl h3 d_Symbols_isConstant_13 ?_
    refine lv_iconst (v := (-1 : Int32)) hx hb d_Symbols_isConstant_14 (by decide +kernel) ?_
    refine lv_icmp_ne (tgt := 22) hx hb d_Symbols_isConstant_15 (by decide +kernel) (fun c4 => ?_) (fun c4 => ?_)
    · have hf := x_neg c4 hf
      refine lv_iconst (v := (0 : Int32)) hx hb d_Symbols_isConstant_22 (by decide +kernel) ?_
      cases hf
      subst hQ
      exact W.zret hx hb hr rfl (fun t ht _ => ⟨rfl, ht⟩) (fun _ h => absurd h List.not_mem_nil) d_Symbols_isConstant_23
    · have hf := x_pos c4 hf
      refine lv_iconst (v := (1 : Int32)) hx hb d_Symbols_isConstant_18 (by decide +kernel) ?_
      refine lv_goto (tgt := 23) hx hb d_Symbols_isConstant_19 (by decide +kernel) ?_
      cases hf
      subst hQ
      exact W.zret hx hb hr rfl (fun t ht _ => ⟨rfl, ht⟩) (fun _ h => absurd h List.not_mem_nil) d_Symbols_isConstant_23
set_option maxHeartbeats 4000000 in
set_option maxRecDepth 100000 in
theorem c_Symbols_isVariable (l : Launch) (dC : Nat → ClassId) (dI : Nat → Nat → Nat) (cI cJ cB : ClassId) (a_S a_S_types a_S_ranks a_S_typeRanks : Nat)  (S_size : Int32) (S_sorts : Int32) (S_types : Nat → Int32) (p1 : Int32) (n : Nat) (o : Int32) (hf : f_Symbols_isVariable n S_size S_types p1 = some o) : Met l y_Symbols_isVariable w_Symbols_isVariable ({ frames := 1, cells := 0, slots := 0, locals := 21 }) (va_Pc [.ref a_S, .int p1] (fun U => va_P (dC, dI) vwCl [(a_S, .inr (0, [.ref a_S_types, .ref a_S_ranks, .ref a_S_typeRanks, .int S_size, .int S_sorts])), (a_S_types, .inl (cI, 1000, .inl S_types))] U.heap ∧ x_K (dC, dI) [(cI, .int), (cJ, .long), (cB, .byte)] U)) (QcRead o) 0 0 (fun _ => False) := by
  refine Met.ofW (cc := b_Symbols_isVariable) (maxL := 2) (ret := (some .boolean)) (by decide +kernel) rfl ?_
  intro p e s m args below meth c s₁ B hml hv
  obtain ⟨rfl, hP, hK⟩ := hv
  have hx := B.exec
  have hb := B.bytes
  have hr := B.returns
  have hts := atoms_spec (ws := w_Symbols_isVariable) B.pre
  have hown : s.vm.findClass "SyntaxTrees$Symbols" = some m.cls := findClass_of_methodNamed B.named
  have hlocks := B.notSynchronized
  have hP : va_P (dC, dI) vwCl [(a_S, .inr (0, [.ref a_S_types, .ref a_S_ranks, .ref a_S_typeRanks, .int S_size, .int S_sorts])), (a_S_types, .inl (cI, 1000, .inl S_types))] s.heap := hP
  have hl := lv_entry ([.ref a_S, .int p1]) (n := 2) (Nat.le_of_ble_eq_true rfl)
  rw [lg_entry_eq]
  generalize (lg_sl ([.ref a_S, .int p1]) ++ List.replicate (2 - (lg_sl ([.ref a_S, .int p1])).length) Slot.unset).toArray = ls at hl ⊢
  have hl : lv_has ls 2 [(0, .ref a_S), (1, .int p1)] := hl
  refine x_Q (fun Q hQ => ?_)
  unfold f_Symbols_isVariable at hf
  refine lv_aload_n hx hb d_Symbols_isVariable_0 rfl (lv_at hl 0 rfl) ?_
  refine lv_iload_n hx hb d_Symbols_isVariable_1 rfl (lv_at hl 1 rfl) ?_
  obtain ⟨x1, hx1, hf⟩ := x_bd hf
  refine x_rdiV (As := [.int p1]) (rest := []) (wc := [(a_S, .inr (0, [.ref a_S_types, .ref a_S_ranks, .ref a_S_typeRanks, .int S_size, .int S_sorts]))]) ⟨hx, hb, hml, hown, hts⟩ (c_Symbols_has l dC dI cI cJ cB a_S a_S_types a_S_ranks a_S_typeRanks S_size S_sorts p1 n x1 hx1) (cwV 1 hts (x_gV m_210 m_211 m_212 m_43 m_213) rfl rfl rfl hd_Symbols_has ⟨Nat.le_of_ble_eq_true rfl, Nat.le_of_ble_eq_true rfl⟩) hK hP [0] rfl (ci := 0) (q0 := 0) rfl rfl rfl rfl hl.1 rfl (Nat.le_of_ble_eq_true rfl) d_Symbols_isVariable_2 ⟨Nat.le_of_ble_eq_true rfl, Nat.le_of_ble_eq_true rfl⟩ ?_
  refine lv_if_eq (tgt := 22) hx hb d_Symbols_isVariable_5 (by decide +kernel) (fun c2 => ?_) (fun c2 => ?_)
  · have hf := x_pos c2 hf
    refine lv_iconst (v := (0 : Int32)) hx hb d_Symbols_isVariable_22 (by decide +kernel) ?_
    cases hf
    subst hQ
    exact W.zret hx hb hr rfl (fun t ht _ => ⟨rfl, ht⟩) (fun _ h => absurd h List.not_mem_nil) d_Symbols_isVariable_23
  · have hf := x_neg c2 hf
    refine lv_aload_n hx hb d_Symbols_isVariable_8 rfl (lv_at hl 0 rfl) ?_
    refine va_get (D := (dC, dI)) (ci := 0) (v := .ref a_S_types) (C := "SyntaxTrees$Symbols") (T := F_Symbols) (N := 5) hx hb hts (fun w h => List.mem_cons_of_mem _ (in_Symbols w h)) hown hK.1 hP 0 rfl rfl 0 (by decide +kernel) (hts _ (List.mem_cons_of_mem _ m_63)) (fun _ h9 => h9) rfl d_Symbols_isVariable_9 ?_
    refine lv_iload_n hx hb d_Symbols_isVariable_12 rfl (lv_at hl 1 rfl) ?_
    obtain ⟨h3, hf⟩ := x_gd hf
    refine va_iald hx hb hK.1 hP 1 0 rfl rfl h3 d_Symbols_isVariable_13 ?_
    refine lv_iconst (v := (-1 : Int32)) hx hb d_Symbols_isVariable_14 (by decide +kernel) ?_
    refine lv_icmp_eq (tgt := 22) hx hb d_Symbols_isVariable_15 (by decide +kernel) (fun c4 => ?_) (fun c4 => ?_)
    · have hf := x_pos c4 hf
      refine lv_iconst (v := (0 : Int32)) hx hb d_Symbols_isVariable_22 (by decide +kernel) ?_
      cases hf
      subst hQ
      exact W.zret hx hb hr rfl (fun t ht _ => ⟨rfl, ht⟩) (fun _ h => absurd h List.not_mem_nil) d_Symbols_isVariable_23
    · have hf := x_neg c4 hf
      refine lv_iconst (v := (1 : Int32)) hx hb d_Symbols_isVariable_18 (by decide +kernel) ?_
      refine lv_goto (tgt := 23) hx hb d_Symbols_isVariable_19 (by decide +kernel) ?_
      cases hf
      subst hQ
      exact W.zret hx hb hr rfl (fun t ht _ => ⟨rfl, ht⟩) (fun _ h => absurd h List.not_mem_nil) d_Symbols_isVariable_23
set_option maxHeartbeats 4000000 in
set_option maxRecDepth 100000 in
theorem c_Symbols_typeOf (l : Launch) (dC : Nat → ClassId) (dI : Nat → Nat → Nat) (cI cJ cB : ClassId) (a_S a_S_types a_S_ranks a_S_typeRanks : Nat)  (S_size : Int32) (S_sorts : Int32) (S_types : Nat → Int32) (p1 : Int32) (n : Nat) (o : Int32) (hf : f_Symbols_typeOf n S_size S_types p1 = some o) : Met l y_Symbols_typeOf w_Symbols_typeOf ({ frames := 1, cells := 0, slots := 0, locals := 21 }) (va_Pc [.ref a_S, .int p1] (fun U => va_P (dC, dI) vwCl [(a_S, .inr (0, [.ref a_S_types, .ref a_S_ranks, .ref a_S_typeRanks, .int S_size, .int S_sorts])), (a_S_types, .inl (cI, 1000, .inl S_types))] U.heap ∧ x_K (dC, dI) [(cI, .int), (cJ, .long), (cB, .byte)] U)) (QcRead o) 0 0 (fun _ => False) := by
  refine Met.ofW (cc := b_Symbols_typeOf) (maxL := 2) (ret := (some .int)) (by decide +kernel) rfl ?_
  intro p e s m args below meth c s₁ B hml hv
  obtain ⟨rfl, hP, hK⟩ := hv
  have hx := B.exec
  have hb := B.bytes
  have hr := B.returns
  have hts := atoms_spec (ws := w_Symbols_typeOf) B.pre
  have hown : s.vm.findClass "SyntaxTrees$Symbols" = some m.cls := findClass_of_methodNamed B.named
  have hlocks := B.notSynchronized
  have hP : va_P (dC, dI) vwCl [(a_S, .inr (0, [.ref a_S_types, .ref a_S_ranks, .ref a_S_typeRanks, .int S_size, .int S_sorts])), (a_S_types, .inl (cI, 1000, .inl S_types))] s.heap := hP
  have hl := lv_entry ([.ref a_S, .int p1]) (n := 2) (Nat.le_of_ble_eq_true rfl)
  rw [lg_entry_eq]
  generalize (lg_sl ([.ref a_S, .int p1]) ++ List.replicate (2 - (lg_sl ([.ref a_S, .int p1])).length) Slot.unset).toArray = ls at hl ⊢
  have hl : lv_has ls 2 [(0, .ref a_S), (1, .int p1)] := hl
  refine x_Q (fun Q hQ => ?_)
  unfold f_Symbols_typeOf at hf
  refine lv_aload_n hx hb d_Symbols_typeOf_0 rfl (lv_at hl 0 rfl) ?_
  refine lv_iload_n hx hb d_Symbols_typeOf_1 rfl (lv_at hl 1 rfl) ?_
  obtain ⟨x1, hx1, hf⟩ := x_bd hf
  refine x_rdiV (As := [.int p1]) (rest := []) (wc := [(a_S, .inr (0, [.ref a_S_types, .ref a_S_ranks, .ref a_S_typeRanks, .int S_size, .int S_sorts]))]) ⟨hx, hb, hml, hown, hts⟩ (c_Symbols_has l dC dI cI cJ cB a_S a_S_types a_S_ranks a_S_typeRanks S_size S_sorts p1 n x1 hx1) (cwV 1 hts (x_gV m_210 m_211 m_212 m_43 m_213) rfl rfl rfl hd_Symbols_has ⟨Nat.le_of_ble_eq_true rfl, Nat.le_of_ble_eq_true rfl⟩) hK hP [0] rfl (ci := 0) (q0 := 0) rfl rfl rfl rfl hl.1 rfl (Nat.le_of_ble_eq_true rfl) d_Symbols_typeOf_2 ⟨Nat.le_of_ble_eq_true rfl, Nat.le_of_ble_eq_true rfl⟩ ?_
  refine lv_if_eq (tgt := 17) hx hb d_Symbols_typeOf_5 (by decide +kernel) (fun c2 => ?_) (fun c2 => ?_)
  · have hf := x_pos c2 hf
    refine lv_iconst (v := (-1 : Int32)) hx hb d_Symbols_typeOf_17 (by decide +kernel) ?_
    cases hf
    subst hQ
    exact W.iret hx hb hr (fun t ht _ => ⟨rfl, ht⟩) (fun _ h => absurd h List.not_mem_nil) d_Symbols_typeOf_18
  · have hf := x_neg c2 hf
    refine lv_aload_n hx hb d_Symbols_typeOf_8 rfl (lv_at hl 0 rfl) ?_
    refine va_get (D := (dC, dI)) (ci := 0) (v := .ref a_S_types) (C := "SyntaxTrees$Symbols") (T := F_Symbols) (N := 5) hx hb hts (fun w h => List.mem_cons_of_mem _ (in_Symbols w h)) hown hK.1 hP 0 rfl rfl 0 (by decide +kernel) (hts _ (List.mem_cons_of_mem _ m_63)) (fun _ h9 => h9) rfl d_Symbols_typeOf_9 ?_
    refine lv_iload_n hx hb d_Symbols_typeOf_12 rfl (lv_at hl 1 rfl) ?_
    obtain ⟨h3, hf⟩ := x_gd hf
    refine va_iald hx hb hK.1 hP 1 0 rfl rfl h3 d_Symbols_typeOf_13 ?_
    refine lv_goto (tgt := 18) hx hb d_Symbols_typeOf_14 (by decide +kernel) ?_
    cases hf
    subst hQ
    exact W.iret hx hb hr (fun t ht _ => ⟨rfl, ht⟩) (fun _ h => absurd h List.not_mem_nil) d_Symbols_typeOf_18
set_option maxHeartbeats 4000000 in
set_option maxRecDepth 100000 in
theorem c_Symbols_rankOf (l : Launch) (dC : Nat → ClassId) (dI : Nat → Nat → Nat) (cI cJ cB : ClassId) (a_S a_S_types a_S_ranks a_S_typeRanks : Nat)  (S_size : Int32) (S_sorts : Int32) (S_ranks : Nat → Int32) (p1 : Int32) (n : Nat) (o : Int32) (hf : f_Symbols_rankOf n S_size S_ranks p1 = some o) : Met l y_Symbols_rankOf w_Symbols_rankOf ({ frames := 1, cells := 0, slots := 0, locals := 21 }) (va_Pc [.ref a_S, .int p1] (fun U => va_P (dC, dI) vwCl [(a_S, .inr (0, [.ref a_S_types, .ref a_S_ranks, .ref a_S_typeRanks, .int S_size, .int S_sorts])), (a_S_ranks, .inl (cI, 1000, .inl S_ranks))] U.heap ∧ x_K (dC, dI) [(cI, .int), (cJ, .long), (cB, .byte)] U)) (QcRead o) 0 0 (fun _ => False) := by
  refine Met.ofW (cc := b_Symbols_rankOf) (maxL := 2) (ret := (some .int)) (by decide +kernel) rfl ?_
  intro p e s m args below meth c s₁ B hml hv
  obtain ⟨rfl, hP, hK⟩ := hv
  have hx := B.exec
  have hb := B.bytes
  have hr := B.returns
  have hts := atoms_spec (ws := w_Symbols_rankOf) B.pre
  have hown : s.vm.findClass "SyntaxTrees$Symbols" = some m.cls := findClass_of_methodNamed B.named
  have hlocks := B.notSynchronized
  have hP : va_P (dC, dI) vwCl [(a_S, .inr (0, [.ref a_S_types, .ref a_S_ranks, .ref a_S_typeRanks, .int S_size, .int S_sorts])), (a_S_ranks, .inl (cI, 1000, .inl S_ranks))] s.heap := hP
  have hl := lv_entry ([.ref a_S, .int p1]) (n := 2) (Nat.le_of_ble_eq_true rfl)
  rw [lg_entry_eq]
  generalize (lg_sl ([.ref a_S, .int p1]) ++ List.replicate (2 - (lg_sl ([.ref a_S, .int p1])).length) Slot.unset).toArray = ls at hl ⊢
  have hl : lv_has ls 2 [(0, .ref a_S), (1, .int p1)] := hl
  refine x_Q (fun Q hQ => ?_)
  unfold f_Symbols_rankOf at hf
  refine lv_aload_n hx hb d_Symbols_rankOf_0 rfl (lv_at hl 0 rfl) ?_
  refine lv_iload_n hx hb d_Symbols_rankOf_1 rfl (lv_at hl 1 rfl) ?_
  obtain ⟨x1, hx1, hf⟩ := x_bd hf
  refine x_rdiV (As := [.int p1]) (rest := []) (wc := [(a_S, .inr (0, [.ref a_S_types, .ref a_S_ranks, .ref a_S_typeRanks, .int S_size, .int S_sorts]))]) ⟨hx, hb, hml, hown, hts⟩ (c_Symbols_has l dC dI cI cJ cB a_S a_S_types a_S_ranks a_S_typeRanks S_size S_sorts p1 n x1 hx1) (cwV 1 hts (x_gV m_210 m_211 m_212 m_43 m_213) rfl rfl rfl hd_Symbols_has ⟨Nat.le_of_ble_eq_true rfl, Nat.le_of_ble_eq_true rfl⟩) hK hP [0] rfl (ci := 0) (q0 := 0) rfl rfl rfl rfl hl.1 rfl (Nat.le_of_ble_eq_true rfl) d_Symbols_rankOf_2 ⟨Nat.le_of_ble_eq_true rfl, Nat.le_of_ble_eq_true rfl⟩ ?_
  refine lv_if_eq (tgt := 17) hx hb d_Symbols_rankOf_5 (by decide +kernel) (fun c2 => ?_) (fun c2 => ?_)
  · have hf := x_pos c2 hf
    refine lv_iconst (v := (-1 : Int32)) hx hb d_Symbols_rankOf_17 (by decide +kernel) ?_
    cases hf
    subst hQ
    exact W.iret hx hb hr (fun t ht _ => ⟨rfl, ht⟩) (fun _ h => absurd h List.not_mem_nil) d_Symbols_rankOf_18
  · have hf := x_neg c2 hf
    refine lv_aload_n hx hb d_Symbols_rankOf_8 rfl (lv_at hl 0 rfl) ?_
    refine va_get (D := (dC, dI)) (ci := 0) (v := .ref a_S_ranks) (C := "SyntaxTrees$Symbols") (T := F_Symbols) (N := 5) hx hb hts (fun w h => List.mem_cons_of_mem _ (in_Symbols w h)) hown hK.1 hP 0 rfl rfl 1 (by decide +kernel) (hts _ (List.mem_cons_of_mem _ m_64)) (fun _ h9 => h9) rfl d_Symbols_rankOf_9 ?_
    refine lv_iload_n hx hb d_Symbols_rankOf_12 rfl (lv_at hl 1 rfl) ?_
    obtain ⟨h3, hf⟩ := x_gd hf
    refine va_iald hx hb hK.1 hP 1 0 rfl rfl h3 d_Symbols_rankOf_13 ?_
    refine lv_goto (tgt := 18) hx hb d_Symbols_rankOf_14 (by decide +kernel) ?_
    cases hf
    subst hQ
    exact W.iret hx hb hr (fun t ht _ => ⟨rfl, ht⟩) (fun _ h => absurd h List.not_mem_nil) d_Symbols_rankOf_18
set_option maxHeartbeats 4000000 in
set_option maxRecDepth 100000 in
theorem c_Symbols_typeRankOf (l : Launch) (dC : Nat → ClassId) (dI : Nat → Nat → Nat) (cI cJ cB : ClassId) (a_S a_S_types a_S_ranks a_S_typeRanks : Nat)  (S_size : Int32) (S_sorts : Int32) (S_typeRanks : Nat → Int32) (p1 : Int32) (n : Nat) (o : Int32) (hf : f_Symbols_typeRankOf n S_size S_typeRanks p1 = some o) : Met l y_Symbols_typeRankOf w_Symbols_typeRankOf ({ frames := 1, cells := 0, slots := 0, locals := 21 }) (va_Pc [.ref a_S, .int p1] (fun U => va_P (dC, dI) vwCl [(a_S, .inr (0, [.ref a_S_types, .ref a_S_ranks, .ref a_S_typeRanks, .int S_size, .int S_sorts])), (a_S_typeRanks, .inl (cI, 1000, .inl S_typeRanks))] U.heap ∧ x_K (dC, dI) [(cI, .int), (cJ, .long), (cB, .byte)] U)) (QcRead o) 0 0 (fun _ => False) := by
  refine Met.ofW (cc := b_Symbols_typeRankOf) (maxL := 2) (ret := (some .int)) (by decide +kernel) rfl ?_
  intro p e s m args below meth c s₁ B hml hv
  obtain ⟨rfl, hP, hK⟩ := hv
  have hx := B.exec
  have hb := B.bytes
  have hr := B.returns
  have hts := atoms_spec (ws := w_Symbols_typeRankOf) B.pre
  have hown : s.vm.findClass "SyntaxTrees$Symbols" = some m.cls := findClass_of_methodNamed B.named
  have hlocks := B.notSynchronized
  have hP : va_P (dC, dI) vwCl [(a_S, .inr (0, [.ref a_S_types, .ref a_S_ranks, .ref a_S_typeRanks, .int S_size, .int S_sorts])), (a_S_typeRanks, .inl (cI, 1000, .inl S_typeRanks))] s.heap := hP
  have hl := lv_entry ([.ref a_S, .int p1]) (n := 2) (Nat.le_of_ble_eq_true rfl)
  rw [lg_entry_eq]
  generalize (lg_sl ([.ref a_S, .int p1]) ++ List.replicate (2 - (lg_sl ([.ref a_S, .int p1])).length) Slot.unset).toArray = ls at hl ⊢
  have hl : lv_has ls 2 [(0, .ref a_S), (1, .int p1)] := hl
  refine x_Q (fun Q hQ => ?_)
  unfold f_Symbols_typeRankOf at hf
  refine lv_aload_n hx hb d_Symbols_typeRankOf_0 rfl (lv_at hl 0 rfl) ?_
  refine lv_iload_n hx hb d_Symbols_typeRankOf_1 rfl (lv_at hl 1 rfl) ?_
  obtain ⟨x1, hx1, hf⟩ := x_bd hf
  refine x_rdiV (As := [.int p1]) (rest := []) (wc := [(a_S, .inr (0, [.ref a_S_types, .ref a_S_ranks, .ref a_S_typeRanks, .int S_size, .int S_sorts]))]) ⟨hx, hb, hml, hown, hts⟩ (c_Symbols_has l dC dI cI cJ cB a_S a_S_types a_S_ranks a_S_typeRanks S_size S_sorts p1 n x1 hx1) (cwV 1 hts (x_gV m_210 m_211 m_212 m_43 m_213) rfl rfl rfl hd_Symbols_has ⟨Nat.le_of_ble_eq_true rfl, Nat.le_of_ble_eq_true rfl⟩) hK hP [0] rfl (ci := 0) (q0 := 0) rfl rfl rfl rfl hl.1 rfl (Nat.le_of_ble_eq_true rfl) d_Symbols_typeRankOf_2 ⟨Nat.le_of_ble_eq_true rfl, Nat.le_of_ble_eq_true rfl⟩ ?_
  refine lv_if_eq (tgt := 17) hx hb d_Symbols_typeRankOf_5 (by decide +kernel) (fun c2 => ?_) (fun c2 => ?_)
  · have hf := x_pos c2 hf
    refine lv_iconst (v := (-1 : Int32)) hx hb d_Symbols_typeRankOf_17 (by decide +kernel) ?_
    cases hf
    subst hQ
    exact W.iret hx hb hr (fun t ht _ => ⟨rfl, ht⟩) (fun _ h => absurd h List.not_mem_nil) d_Symbols_typeRankOf_18
  · have hf := x_neg c2 hf
    refine lv_aload_n hx hb d_Symbols_typeRankOf_8 rfl (lv_at hl 0 rfl) ?_
    refine va_get (D := (dC, dI)) (ci := 0) (v := .ref a_S_typeRanks) (C := "SyntaxTrees$Symbols") (T := F_Symbols) (N := 5) hx hb hts (fun w h => List.mem_cons_of_mem _ (in_Symbols w h)) hown hK.1 hP 0 rfl rfl 2 (by decide +kernel) (hts _ (List.mem_cons_of_mem _ m_65)) (fun _ h9 => h9) rfl d_Symbols_typeRankOf_9 ?_
    refine lv_iload_n hx hb d_Symbols_typeRankOf_12 rfl (lv_at hl 1 rfl) ?_
    obtain ⟨h3, hf⟩ := x_gd hf
    refine va_iald hx hb hK.1 hP 1 0 rfl rfl h3 d_Symbols_typeRankOf_13 ?_
    refine lv_goto (tgt := 18) hx hb d_Symbols_typeRankOf_14 (by decide +kernel) ?_
    cases hf
    subst hQ
    exact W.iret hx hb hr (fun t ht _ => ⟨rfl, ht⟩) (fun _ h => absurd h List.not_mem_nil) d_Symbols_typeRankOf_18
set_option maxHeartbeats 4000000 in
set_option maxRecDepth 100000 in
theorem c_Symbols_becomesSort (l : Launch) (dC : Nat → ClassId) (dI : Nat → Nat → Nat) (cI cJ cB : ClassId) (a_S a_S_types a_S_ranks a_S_typeRanks : Nat)  (S_size : Int32) (S_sorts : Int32) (S_types : Nat → Int32) (S_ranks : Nat → Int32) (p1 : Int32) (sz : Nat) (n : Nat) (o : Int32 × Int32 × (Nat → Int32)) (hf : f_Symbols_becomesSort n S_size S_sorts S_types S_ranks p1 = some o) : Met l y_Symbols_becomesSort w_Symbols_becomesSort ({ frames := 2, cells := 0, slots := 0, locals := 42 }) (va_Pc [.ref a_S, .int p1] (fun U => U.heap.size = sz ∧ va_P (dC, dI) vwCl [(a_S, .inr (0, [.ref a_S_types, .ref a_S_ranks, .ref a_S_typeRanks, .int S_size, .int S_sorts])), (a_S_types, .inl (cI, 1000, .inl S_types)), (a_S_ranks, .inl (cI, 1000, .inl S_ranks))] U.heap ∧ x_K (dC, dI) [(cI, .int), (cJ, .long), (cB, .byte)] U ∧ va_D (fun _ => True) [(a_S, .inr (0, [.ref a_S_types, .ref a_S_ranks, .ref a_S_typeRanks, .int S_size, .int S_sorts])), (a_S_types, .inl (cI, 1000, .inl S_types)), (a_S_ranks, .inl (cI, 1000, .inl S_ranks))])) (va_Qi (fun r (_ : Unit) => r = o.1) (fun _ t => va_P (dC, dI) vwCl [(a_S, .inr (0, [.ref a_S_types, .ref a_S_ranks, .ref a_S_typeRanks, .int S_size, .int o.2.1])), (a_S_types, .inl (cI, 1000, .inl S_types)), (a_S_ranks, .inl (cI, 1000, .inl o.2.2))] t.heap ∧ va_D (va_A [(a_S, .inr (0, [.ref a_S_types, .ref a_S_ranks, .ref a_S_typeRanks, .int S_size, .int S_sorts])), (a_S_types, .inl (cI, 1000, .inl S_types)), (a_S_ranks, .inl (cI, 1000, .inl S_ranks))] sz) [(a_S, .inr (0, [.ref a_S_types, .ref a_S_ranks, .ref a_S_typeRanks, .int S_size, .int o.2.1])), (a_S_types, .inl (cI, 1000, .inl S_types)), (a_S_ranks, .inl (cI, 1000, .inl o.2.2))]) (va_A [(a_S, .inr (0, [.ref a_S_types, .ref a_S_ranks, .ref a_S_typeRanks, .int S_size, .int S_sorts])), (a_S_types, .inl (cI, 1000, .inl S_types)), (a_S_ranks, .inl (cI, 1000, .inl S_ranks))] sz)) 0 0 (va_A [(a_S, .inr (0, [.ref a_S_types, .ref a_S_ranks, .ref a_S_typeRanks, .int S_size, .int S_sorts])), (a_S_types, .inl (cI, 1000, .inl S_types)), (a_S_ranks, .inl (cI, 1000, .inl S_ranks))] sz) := by
  refine Met.ofW (cc := b_Symbols_becomesSort) (maxL := 2) (ret := (some .boolean)) (by decide +kernel) rfl ?_
  intro p e s m args below meth c s₁ B hml hv
  obtain ⟨rfl, hsz, hP, hK, hD0⟩ := hv
  have hx := B.exec
  have hb := B.bytes
  have hr := B.returns
  have hts := atoms_spec (ws := w_Symbols_becomesSort) B.pre
  have hown : s.vm.findClass "SyntaxTrees$Symbols" = some m.cls := findClass_of_methodNamed B.named
  have hlocks := B.notSynchronized
  subst hsz
  have hD := hD0.self (sz := s.heap.size)
  generalize hAe : va_A [(a_S, .inr (0, [.ref a_S_types, .ref a_S_ranks, .ref a_S_typeRanks, .int S_size, .int S_sorts])), (a_S_types, .inl (cI, 1000, .inl S_types)), (a_S_ranks, .inl (cI, 1000, .inl S_ranks))] s.heap.size = A at hD ⊢
  have hA : ∀ q : Nat, s.heap.size ≤ q → A q := fun q h => by rw [← hAe]; exact Or.inr h
  have hS : va_S A s.heap s.heap [] := va_S.rf
  have hP : va_P (dC, dI) vwCl [(a_S, .inr (0, [.ref a_S_types, .ref a_S_ranks, .ref a_S_typeRanks, .int S_size, .int S_sorts])), (a_S_types, .inl (cI, 1000, .inl S_types)), (a_S_ranks, .inl (cI, 1000, .inl S_ranks))] s.heap := hP
  have hl := lv_entry ([.ref a_S, .int p1]) (n := 2) (Nat.le_of_ble_eq_true rfl)
  rw [lg_entry_eq]
  generalize (lg_sl ([.ref a_S, .int p1]) ++ List.replicate (2 - (lg_sl ([.ref a_S, .int p1])).length) Slot.unset).toArray = ls at hl ⊢
  have hl : lv_has ls 2 [(0, .ref a_S), (1, .int p1)] := hl
  refine x_Q (fun Q hQ => ?_)
  unfold f_Symbols_becomesSort at hf
  refine lv_aload_n hx hb d_Symbols_becomesSort_0 rfl (lv_at hl 0 rfl) ?_
  refine lv_iload_n hx hb d_Symbols_becomesSort_1 rfl (lv_at hl 1 rfl) ?_
  obtain ⟨x1, hx1, hf⟩ := x_bd hf
  refine x_rdiV (As := [.int p1]) (rest := []) (wc := [(a_S, .inr (0, [.ref a_S_types, .ref a_S_ranks, .ref a_S_typeRanks, .int S_size, .int S_sorts])), (a_S_types, .inl (cI, 1000, .inl S_types))]) ⟨hx, hb, hml, hown, hts⟩ (c_Symbols_isConstant l dC dI cI cJ cB a_S a_S_types a_S_ranks a_S_typeRanks S_size S_sorts S_types p1 n x1 hx1) (cwV 1 hts (x_gV m_206 m_207 m_208 m_43 m_209) rfl rfl rfl hd_Symbols_isConstant ⟨Nat.le_of_ble_eq_true rfl, Nat.le_of_ble_eq_true rfl⟩) hK hP [0, 1] rfl (ci := 0) (q0 := 0) rfl rfl rfl rfl hl.1 rfl (Nat.le_of_ble_eq_true rfl) d_Symbols_becomesSort_2 ⟨Nat.le_of_ble_eq_true rfl, Nat.le_of_ble_eq_true rfl⟩ ?_
  refine lv_if_ne (tgt := 10) hx hb d_Symbols_becomesSort_5 (by decide +kernel) (fun c2 => ?_) (fun c2 => ?_)
  · have hf := x_neg c2 hf
    refine lv_aload_n hx hb d_Symbols_becomesSort_10 rfl (lv_at hl 0 rfl) ?_
    refine va_get (D := (dC, dI)) (ci := 0) (v := .ref a_S_ranks) (C := "SyntaxTrees$Symbols") (T := F_Symbols) (N := 5) hx hb hts (fun w h => List.mem_cons_of_mem _ (in_Symbols w h)) hown hK.1 hP 0 rfl rfl 1 (by decide +kernel) (hts _ (List.mem_cons_of_mem _ m_64)) (fun _ h9 => h9) rfl d_Symbols_becomesSort_11 ?_
    refine lv_iload_n hx hb d_Symbols_becomesSort_14 rfl (lv_at hl 1 rfl) ?_
    obtain ⟨h3, hf⟩ := x_gd hf
    refine va_iald hx hb hK.1 hP 2 0 rfl rfl h3 d_Symbols_becomesSort_15 ?_
    refine lv_iconst (v := (-1 : Int32)) hx hb d_Symbols_becomesSort_16 (by decide +kernel) ?_
    refine lv_icmp_ne (tgt := 49) hx hb d_Symbols_becomesSort_17 (by decide +kernel) (fun c4 => ?_) (fun c4 => ?_)
    · have hf := x_neg c4 hf
      refine lv_aload_n hx hb d_Symbols_becomesSort_49 rfl (lv_at hl 0 rfl) ?_
      refine va_get (D := (dC, dI)) (ci := 0) (v := .ref a_S_ranks) (C := "SyntaxTrees$Symbols") (T := F_Symbols) (N := 5) hx hb hts (fun w h => List.mem_cons_of_mem _ (in_Symbols w h)) hown hK.1 hP 0 rfl rfl 1 (by decide +kernel) (hts _ (List.mem_cons_of_mem _ m_64)) (fun _ h9 => h9) rfl d_Symbols_becomesSort_50 ?_
      refine lv_iload_n hx hb d_Symbols_becomesSort_53 rfl (lv_at hl 1 rfl) ?_
      obtain ⟨h5, hf⟩ := x_gd hf
      refine va_iald hx hb hK.1 hP 2 0 rfl rfl h5 d_Symbols_becomesSort_54 ?_
      refine lv_iconst (v := (-1 : Int32)) hx hb d_Symbols_becomesSort_55 (by decide +kernel) ?_
      refine lv_icmp_eq (tgt := 63) hx hb d_Symbols_becomesSort_56 (by decide +kernel) (fun c6 => ?_) (fun c6 => ?_)
      · have hf := x_pos c6 hf
        refine lv_iconst (v := (0 : Int32)) hx hb d_Symbols_becomesSort_63 (by decide +kernel) ?_
        cases hf
        subst hQ
        exact W.zret hx hb hr rfl (fun t ht _ => ⟨⟨_, (), rfl, rfl, by rw [ht]; exact hP, hD⟩, hS.F ht⟩) hS.2.2 d_Symbols_becomesSort_64
      · have hf := x_neg c6 hf
        refine lv_iconst (v := (1 : Int32)) hx hb d_Symbols_becomesSort_59 (by decide +kernel) ?_
        refine lv_goto (tgt := 64) hx hb d_Symbols_becomesSort_60 (by decide +kernel) ?_
        cases hf
        subst hQ
        exact W.zret hx hb hr rfl (fun t ht _ => ⟨⟨_, (), rfl, rfl, by rw [ht]; exact hP, hD⟩, hS.F ht⟩) hS.2.2 d_Symbols_becomesSort_64
    · have hf := x_pos c4 hf
      refine lv_aload_n hx hb d_Symbols_becomesSort_20 rfl (lv_at hl 0 rfl) ?_
      refine va_get (D := (dC, dI)) (ci := 0) (v := .int S_sorts) (C := "SyntaxTrees$Symbols") (T := F_Symbols) (N := 5) hx hb hts (fun w h => List.mem_cons_of_mem _ (in_Symbols w h)) hown hK.1 hP 0 rfl rfl 4 (by decide +kernel) (hts _ (List.mem_cons_of_mem _ m_67)) (fun _ h9 => h9) rfl d_Symbols_becomesSort_21 ?_
      refine lv_bipush (v := (100 : Int32)) hx hb d_Symbols_becomesSort_24 (by decide +kernel) ?_
      refine lv_icmp_ge (tgt := 49) hx hb d_Symbols_becomesSort_26 (by decide +kernel) (fun c7 => ?_) (fun c7 => ?_)
      · have hf := x_pos c7 hf
        refine lv_aload_n hx hb d_Symbols_becomesSort_49 rfl (lv_at hl 0 rfl) ?_
        refine va_get (D := (dC, dI)) (ci := 0) (v := .ref a_S_ranks) (C := "SyntaxTrees$Symbols") (T := F_Symbols) (N := 5) hx hb hts (fun w h => List.mem_cons_of_mem _ (in_Symbols w h)) hown hK.1 hP 0 rfl rfl 1 (by decide +kernel) (hts _ (List.mem_cons_of_mem _ m_64)) (fun _ h9 => h9) rfl d_Symbols_becomesSort_50 ?_
        refine lv_iload_n hx hb d_Symbols_becomesSort_53 rfl (lv_at hl 1 rfl) ?_
        obtain ⟨h8, hf⟩ := x_gd hf
        refine va_iald hx hb hK.1 hP 2 0 rfl rfl h8 d_Symbols_becomesSort_54 ?_
        refine lv_iconst (v := (-1 : Int32)) hx hb d_Symbols_becomesSort_55 (by decide +kernel) ?_
        refine lv_icmp_eq (tgt := 63) hx hb d_Symbols_becomesSort_56 (by decide +kernel) (fun c9 => ?_) (fun c9 => ?_)
        · have hf := x_pos c9 hf
          refine lv_iconst (v := (0 : Int32)) hx hb d_Symbols_becomesSort_63 (by decide +kernel) ?_
          cases hf
          subst hQ
          exact W.zret hx hb hr rfl (fun t ht _ => ⟨⟨_, (), rfl, rfl, by rw [ht]; exact hP, hD⟩, hS.F ht⟩) hS.2.2 d_Symbols_becomesSort_64
        · have hf := x_neg c9 hf
          refine lv_iconst (v := (1 : Int32)) hx hb d_Symbols_becomesSort_59 (by decide +kernel) ?_
          refine lv_goto (tgt := 64) hx hb d_Symbols_becomesSort_60 (by decide +kernel) ?_
          cases hf
          subst hQ
          exact W.zret hx hb hr rfl (fun t ht _ => ⟨⟨_, (), rfl, rfl, by rw [ht]; exact hP, hD⟩, hS.F ht⟩) hS.2.2 d_Symbols_becomesSort_64
      · have hf := x_neg c7 hf
        refine lv_aload_n hx hb d_Symbols_becomesSort_29 rfl (lv_at hl 0 rfl) ?_
        refine va_get (D := (dC, dI)) (ci := 0) (v := .ref a_S_ranks) (C := "SyntaxTrees$Symbols") (T := F_Symbols) (N := 5) hx hb hts (fun w h => List.mem_cons_of_mem _ (in_Symbols w h)) hown hK.1 hP 0 rfl rfl 1 (by decide +kernel) (hts _ (List.mem_cons_of_mem _ m_64)) (fun _ h9 => h9) rfl d_Symbols_becomesSort_30 ?_
        refine lv_iload_n hx hb d_Symbols_becomesSort_33 rfl (lv_at hl 1 rfl) ?_
        refine lv_aload_n hx hb d_Symbols_becomesSort_34 rfl (lv_at hl 0 rfl) ?_
        refine va_get (D := (dC, dI)) (ci := 0) (v := .int S_sorts) (C := "SyntaxTrees$Symbols") (T := F_Symbols) (N := 5) hx hb hts (fun w h => List.mem_cons_of_mem _ (in_Symbols w h)) hown hK.1 hP 0 rfl rfl 4 (by decide +kernel) (hts _ (List.mem_cons_of_mem _ m_67)) (fun _ h9 => h9) rfl d_Symbols_becomesSort_35 ?_
        obtain ⟨h10, hf⟩ := x_gd hf
        refine x_iast (w1 := [(a_S, .inr (0, [.ref a_S_types, .ref a_S_ranks, .ref a_S_typeRanks, .int S_size, .int S_sorts])), (a_S_types, .inl (cI, 1000, .inl S_types)), (a_S_ranks, .inl (cI, 1000, .inl (upd S_ranks p1.toNatClampNeg S_sorts)))]) hx hb hK.1 hP hD hS 2 0 rfl rfl h10 d_Symbols_becomesSort_38 rfl (fun H locs hP hD hS => ?_)
        refine lv_aload_n hx hb d_Symbols_becomesSort_39 rfl (lv_at hl 0 rfl) ?_
        refine lv_dup hx hb d_Symbols_becomesSort_40 rfl ?_
        refine va_get (D := (dC, dI)) (ci := 0) (v := .int S_sorts) (C := "SyntaxTrees$Symbols") (T := F_Symbols) (N := 5) hx hb hts (fun w h => List.mem_cons_of_mem _ (in_Symbols w h)) hown hK.1 hP 0 rfl rfl 4 (by decide +kernel) (hts _ (List.mem_cons_of_mem _ m_67)) (fun _ h9 => h9) rfl d_Symbols_becomesSort_41 ?_
        refine lv_iconst (v := (1 : Int32)) hx hb d_Symbols_becomesSort_44 (by decide +kernel) ?_
        refine lv_iadd hx hb d_Symbols_becomesSort_45 ?_
        refine x_put (D := (dC, dI)) (ci := 0) (v := .int (S_sorts + (1 : Int32))) (ty := .int) (C := "SyntaxTrees$Symbols") (T := F_Symbols) (N := 5) (w1 := [(a_S, .inr (0, [.ref a_S_types, .ref a_S_ranks, .ref a_S_typeRanks, .int S_size, .int (S_sorts + (1 : Int32))])), (a_S_types, .inl (cI, 1000, .inl S_types)), (a_S_ranks, .inl (cI, 1000, .inl (upd S_ranks p1.toNatClampNeg S_sorts)))]) hx hb hts (fun w h => List.mem_cons_of_mem _ (in_Symbols w h)) t_Symbols t_Symbols_ok n_Symbols hown hK.1 hP hD hS 0 rfl rfl 4 (by decide +kernel) (hts _ (List.mem_cons_of_mem _ m_67)) (fun _ h9 => h9) rfl (by decide +kernel) rfl rfl (Nat.le_of_ble_eq_true rfl) d_Symbols_becomesSort_46 rfl (fun H locs hP hD hS => ?_)
        refine lv_aload_n hx hb d_Symbols_becomesSort_49 rfl (lv_at hl 0 rfl) ?_
        refine va_get (D := (dC, dI)) (ci := 0) (v := .ref a_S_ranks) (C := "SyntaxTrees$Symbols") (T := F_Symbols) (N := 5) hx hb hts (fun w h => List.mem_cons_of_mem _ (in_Symbols w h)) hown hK.1 hP 0 rfl rfl 1 (by decide +kernel) (hts _ (List.mem_cons_of_mem _ m_64)) (fun _ h9 => h9) rfl d_Symbols_becomesSort_50 ?_
        refine lv_iload_n hx hb d_Symbols_becomesSort_53 rfl (lv_at hl 1 rfl) ?_
        obtain ⟨h11, hf⟩ := x_gd hf
        refine va_iald hx hb hK.1 hP 2 0 rfl rfl h11 d_Symbols_becomesSort_54 ?_
        refine lv_iconst (v := (-1 : Int32)) hx hb d_Symbols_becomesSort_55 (by decide +kernel) ?_
        refine lv_icmp_eq (tgt := 63) hx hb d_Symbols_becomesSort_56 (by decide +kernel) (fun c12 => ?_) (fun c12 => ?_)
        · have hf := x_pos c12 hf
          refine lv_iconst (v := (0 : Int32)) hx hb d_Symbols_becomesSort_63 (by decide +kernel) ?_
          cases hf
          subst hQ
          exact W.zret hx hb hr rfl (fun t ht _ => ⟨⟨_, (), rfl, rfl, by rw [ht]; exact hP, hD⟩, hS.F ht⟩) hS.2.2 d_Symbols_becomesSort_64
        · have hf := x_neg c12 hf
          refine lv_iconst (v := (1 : Int32)) hx hb d_Symbols_becomesSort_59 (by decide +kernel) ?_
          refine lv_goto (tgt := 64) hx hb d_Symbols_becomesSort_60 (by decide +kernel) ?_
          cases hf
          subst hQ
          exact W.zret hx hb hr rfl (fun t ht _ => ⟨⟨_, (), rfl, rfl, by rw [ht]; exact hP, hD⟩, hS.F ht⟩) hS.2.2 d_Symbols_becomesSort_64
  · have hf := x_pos c2 hf
    refine lv_iconst (v := (0 : Int32)) hx hb d_Symbols_becomesSort_8 (by decide +kernel) ?_
    cases hf
    subst hQ
    exact W.zret hx hb hr rfl (fun t ht _ => ⟨⟨_, (), rfl, rfl, by rw [ht]; exact hP, hD⟩, hS.F ht⟩) hS.2.2 d_Symbols_becomesSort_9
set_option maxHeartbeats 4000000 in
set_option maxRecDepth 100000 in
theorem c_Symbols_append (l : Launch) (dC : Nat → ClassId) (dI : Nat → Nat → Nat) (cI cJ cB : ClassId) (a_S a_S_types a_S_ranks a_S_typeRanks : Nat)  (S_size : Int32) (S_sorts : Int32) (S_types : Nat → Int32) (S_ranks : Nat → Int32) (S_typeRanks : Nat → Int32) (p1 : Int32) (p2 : Int32) (sz : Nat) (n : Nat) (o : Int32 × Int32 × (Nat → Int32) × (Nat → Int32) × (Nat → Int32)) (hf : f_Symbols_append n S_size S_types S_ranks S_typeRanks p1 p2 = some o) : Met l y_Symbols_append w_Symbols_append ({ frames := 0, cells := 0, slots := 0, locals := 0 }) (va_Pc [.ref a_S, .int p1, .int p2] (fun U => U.heap.size = sz ∧ va_P (dC, dI) vwCl [(a_S, .inr (0, [.ref a_S_types, .ref a_S_ranks, .ref a_S_typeRanks, .int S_size, .int S_sorts])), (a_S_types, .inl (cI, 1000, .inl S_types)), (a_S_ranks, .inl (cI, 1000, .inl S_ranks)), (a_S_typeRanks, .inl (cI, 1000, .inl S_typeRanks))] U.heap ∧ x_K (dC, dI) [(cI, .int), (cJ, .long), (cB, .byte)] U ∧ va_D (fun _ => True) [(a_S, .inr (0, [.ref a_S_types, .ref a_S_ranks, .ref a_S_typeRanks, .int S_size, .int S_sorts])), (a_S_types, .inl (cI, 1000, .inl S_types)), (a_S_ranks, .inl (cI, 1000, .inl S_ranks)), (a_S_typeRanks, .inl (cI, 1000, .inl S_typeRanks))])) (va_Qi (fun r (_ : Unit) => r = o.1) (fun _ t => va_P (dC, dI) vwCl [(a_S, .inr (0, [.ref a_S_types, .ref a_S_ranks, .ref a_S_typeRanks, .int o.2.1, .int S_sorts])), (a_S_types, .inl (cI, 1000, .inl o.2.2.1)), (a_S_ranks, .inl (cI, 1000, .inl o.2.2.2.1)), (a_S_typeRanks, .inl (cI, 1000, .inl o.2.2.2.2))] t.heap ∧ va_D (va_A [(a_S, .inr (0, [.ref a_S_types, .ref a_S_ranks, .ref a_S_typeRanks, .int S_size, .int S_sorts])), (a_S_types, .inl (cI, 1000, .inl S_types)), (a_S_ranks, .inl (cI, 1000, .inl S_ranks)), (a_S_typeRanks, .inl (cI, 1000, .inl S_typeRanks))] sz) [(a_S, .inr (0, [.ref a_S_types, .ref a_S_ranks, .ref a_S_typeRanks, .int o.2.1, .int S_sorts])), (a_S_types, .inl (cI, 1000, .inl o.2.2.1)), (a_S_ranks, .inl (cI, 1000, .inl o.2.2.2.1)), (a_S_typeRanks, .inl (cI, 1000, .inl o.2.2.2.2))]) (va_A [(a_S, .inr (0, [.ref a_S_types, .ref a_S_ranks, .ref a_S_typeRanks, .int S_size, .int S_sorts])), (a_S_types, .inl (cI, 1000, .inl S_types)), (a_S_ranks, .inl (cI, 1000, .inl S_ranks)), (a_S_typeRanks, .inl (cI, 1000, .inl S_typeRanks))] sz)) 0 0 (va_A [(a_S, .inr (0, [.ref a_S_types, .ref a_S_ranks, .ref a_S_typeRanks, .int S_size, .int S_sorts])), (a_S_types, .inl (cI, 1000, .inl S_types)), (a_S_ranks, .inl (cI, 1000, .inl S_ranks)), (a_S_typeRanks, .inl (cI, 1000, .inl S_typeRanks))] sz) := by
  refine Met.ofW (cc := b_Symbols_append) (maxL := 3) (ret := (some .int)) (by decide +kernel) rfl ?_
  intro p e s m args below meth c s₁ B hml hv
  obtain ⟨rfl, hsz, hP, hK, hD0⟩ := hv
  have hx := B.exec
  have hb := B.bytes
  have hr := B.returns
  have hts := atoms_spec (ws := w_Symbols_append) B.pre
  have hown : s.vm.findClass "SyntaxTrees$Symbols" = some m.cls := findClass_of_methodNamed B.named
  have hlocks := B.notSynchronized
  subst hsz
  have hD := hD0.self (sz := s.heap.size)
  generalize hAe : va_A [(a_S, .inr (0, [.ref a_S_types, .ref a_S_ranks, .ref a_S_typeRanks, .int S_size, .int S_sorts])), (a_S_types, .inl (cI, 1000, .inl S_types)), (a_S_ranks, .inl (cI, 1000, .inl S_ranks)), (a_S_typeRanks, .inl (cI, 1000, .inl S_typeRanks))] s.heap.size = A at hD ⊢
  have hA : ∀ q : Nat, s.heap.size ≤ q → A q := fun q h => by rw [← hAe]; exact Or.inr h
  have hS : va_S A s.heap s.heap [] := va_S.rf
  have hP : va_P (dC, dI) vwCl [(a_S, .inr (0, [.ref a_S_types, .ref a_S_ranks, .ref a_S_typeRanks, .int S_size, .int S_sorts])), (a_S_types, .inl (cI, 1000, .inl S_types)), (a_S_ranks, .inl (cI, 1000, .inl S_ranks)), (a_S_typeRanks, .inl (cI, 1000, .inl S_typeRanks))] s.heap := hP
  have hl := lv_entry ([.ref a_S, .int p1, .int p2]) (n := 3) (Nat.le_of_ble_eq_true rfl)
  rw [lg_entry_eq]
  generalize (lg_sl ([.ref a_S, .int p1, .int p2]) ++ List.replicate (3 - (lg_sl ([.ref a_S, .int p1, .int p2])).length) Slot.unset).toArray = ls at hl ⊢
  have hl : lv_has ls 3 [(0, .ref a_S), (1, .int p1), (2, .int p2)] := hl
  refine x_Q (fun Q hQ => ?_)
  unfold f_Symbols_append at hf
  refine lv_aload_n hx hb d_Symbols_append_0 rfl (lv_at hl 0 rfl) ?_
  refine va_get (D := (dC, dI)) (ci := 0) (v := .ref a_S_types) (C := "SyntaxTrees$Symbols") (T := F_Symbols) (N := 5) hx hb hts (fun w h => List.mem_cons_of_mem _ (in_Symbols w h)) hown hK.1 hP 0 rfl rfl 0 (by decide +kernel) (hts _ (List.mem_cons_of_mem _ m_63)) (fun _ h9 => h9) rfl d_Symbols_append_1 ?_
  refine lv_aload_n hx hb d_Symbols_append_4 rfl (lv_at hl 0 rfl) ?_
  refine va_get (D := (dC, dI)) (ci := 0) (v := .int S_size) (C := "SyntaxTrees$Symbols") (T := F_Symbols) (N := 5) hx hb hts (fun w h => List.mem_cons_of_mem _ (in_Symbols w h)) hown hK.1 hP 0 rfl rfl 3 (by decide +kernel) (hts _ (List.mem_cons_of_mem _ m_66)) (fun _ h9 => h9) rfl d_Symbols_append_5 ?_
  refine lv_iload_n hx hb d_Symbols_append_8 rfl (lv_at hl 1 rfl) ?_
  obtain ⟨h1, hf⟩ := x_gd hf
  refine x_iast (w1 := [(a_S, .inr (0, [.ref a_S_types, .ref a_S_ranks, .ref a_S_typeRanks, .int S_size, .int S_sorts])), (a_S_types, .inl (cI, 1000, .inl (upd S_types S_size.toNatClampNeg p1))), (a_S_ranks, .inl (cI, 1000, .inl S_ranks)), (a_S_typeRanks, .inl (cI, 1000, .inl S_typeRanks))]) hx hb hK.1 hP hD hS 1 0 rfl rfl h1 d_Symbols_append_9 rfl (fun H locs hP hD hS => ?_)
  refine lv_aload_n hx hb d_Symbols_append_10 rfl (lv_at hl 0 rfl) ?_
  refine va_get (D := (dC, dI)) (ci := 0) (v := .ref a_S_ranks) (C := "SyntaxTrees$Symbols") (T := F_Symbols) (N := 5) hx hb hts (fun w h => List.mem_cons_of_mem _ (in_Symbols w h)) hown hK.1 hP 0 rfl rfl 1 (by decide +kernel) (hts _ (List.mem_cons_of_mem _ m_64)) (fun _ h9 => h9) rfl d_Symbols_append_11 ?_
  refine lv_aload_n hx hb d_Symbols_append_14 rfl (lv_at hl 0 rfl) ?_
  refine va_get (D := (dC, dI)) (ci := 0) (v := .int S_size) (C := "SyntaxTrees$Symbols") (T := F_Symbols) (N := 5) hx hb hts (fun w h => List.mem_cons_of_mem _ (in_Symbols w h)) hown hK.1 hP 0 rfl rfl 3 (by decide +kernel) (hts _ (List.mem_cons_of_mem _ m_66)) (fun _ h9 => h9) rfl d_Symbols_append_15 ?_
  refine lv_iconst (v := (-1 : Int32)) hx hb d_Symbols_append_18 (by decide +kernel) ?_
  obtain ⟨h2, hf⟩ := x_gd hf
  refine x_iast (w1 := [(a_S, .inr (0, [.ref a_S_types, .ref a_S_ranks, .ref a_S_typeRanks, .int S_size, .int S_sorts])), (a_S_types, .inl (cI, 1000, .inl (upd S_types S_size.toNatClampNeg p1))), (a_S_ranks, .inl (cI, 1000, .inl (upd S_ranks S_size.toNatClampNeg (-1 : Int32)))), (a_S_typeRanks, .inl (cI, 1000, .inl S_typeRanks))]) hx hb hK.1 hP hD hS 2 0 rfl rfl h2 d_Symbols_append_19 rfl (fun H locs hP hD hS => ?_)
  refine lv_aload_n hx hb d_Symbols_append_20 rfl (lv_at hl 0 rfl) ?_
  refine va_get (D := (dC, dI)) (ci := 0) (v := .ref a_S_typeRanks) (C := "SyntaxTrees$Symbols") (T := F_Symbols) (N := 5) hx hb hts (fun w h => List.mem_cons_of_mem _ (in_Symbols w h)) hown hK.1 hP 0 rfl rfl 2 (by decide +kernel) (hts _ (List.mem_cons_of_mem _ m_65)) (fun _ h9 => h9) rfl d_Symbols_append_21 ?_
  refine lv_aload_n hx hb d_Symbols_append_24 rfl (lv_at hl 0 rfl) ?_
  refine va_get (D := (dC, dI)) (ci := 0) (v := .int S_size) (C := "SyntaxTrees$Symbols") (T := F_Symbols) (N := 5) hx hb hts (fun w h => List.mem_cons_of_mem _ (in_Symbols w h)) hown hK.1 hP 0 rfl rfl 3 (by decide +kernel) (hts _ (List.mem_cons_of_mem _ m_66)) (fun _ h9 => h9) rfl d_Symbols_append_25 ?_
  refine lv_iload_n hx hb d_Symbols_append_28 rfl (lv_at hl 2 rfl) ?_
  obtain ⟨h3, hf⟩ := x_gd hf
  refine x_iast (w1 := [(a_S, .inr (0, [.ref a_S_types, .ref a_S_ranks, .ref a_S_typeRanks, .int S_size, .int S_sorts])), (a_S_types, .inl (cI, 1000, .inl (upd S_types S_size.toNatClampNeg p1))), (a_S_ranks, .inl (cI, 1000, .inl (upd S_ranks S_size.toNatClampNeg (-1 : Int32)))), (a_S_typeRanks, .inl (cI, 1000, .inl (upd S_typeRanks S_size.toNatClampNeg p2)))]) hx hb hK.1 hP hD hS 3 0 rfl rfl h3 d_Symbols_append_29 rfl (fun H locs hP hD hS => ?_)
  refine lv_aload_n hx hb d_Symbols_append_30 rfl (lv_at hl 0 rfl) ?_
  refine lv_dup hx hb d_Symbols_append_31 rfl ?_
  refine va_get (D := (dC, dI)) (ci := 0) (v := .int S_size) (C := "SyntaxTrees$Symbols") (T := F_Symbols) (N := 5) hx hb hts (fun w h => List.mem_cons_of_mem _ (in_Symbols w h)) hown hK.1 hP 0 rfl rfl 3 (by decide +kernel) (hts _ (List.mem_cons_of_mem _ m_66)) (fun _ h9 => h9) rfl d_Symbols_append_32 ?_
  refine lv_iconst (v := (1 : Int32)) hx hb d_Symbols_append_35 (by decide +kernel) ?_
  refine lv_iadd hx hb d_Symbols_append_36 ?_
  refine x_put (D := (dC, dI)) (ci := 0) (v := .int (S_size + (1 : Int32))) (ty := .int) (C := "SyntaxTrees$Symbols") (T := F_Symbols) (N := 5) (w1 := [(a_S, .inr (0, [.ref a_S_types, .ref a_S_ranks, .ref a_S_typeRanks, .int (S_size + (1 : Int32)), .int S_sorts])), (a_S_types, .inl (cI, 1000, .inl (upd S_types S_size.toNatClampNeg p1))), (a_S_ranks, .inl (cI, 1000, .inl (upd S_ranks S_size.toNatClampNeg (-1 : Int32)))), (a_S_typeRanks, .inl (cI, 1000, .inl (upd S_typeRanks S_size.toNatClampNeg p2)))]) hx hb hts (fun w h => List.mem_cons_of_mem _ (in_Symbols w h)) t_Symbols t_Symbols_ok n_Symbols hown hK.1 hP hD hS 0 rfl rfl 3 (by decide +kernel) (hts _ (List.mem_cons_of_mem _ m_66)) (fun _ h9 => h9) rfl (by decide +kernel) rfl rfl (Nat.le_of_ble_eq_true rfl) d_Symbols_append_37 rfl (fun H locs hP hD hS => ?_)
  refine lv_aload_n hx hb d_Symbols_append_40 rfl (lv_at hl 0 rfl) ?_
  refine va_get (D := (dC, dI)) (ci := 0) (v := .int (S_size + (1 : Int32))) (C := "SyntaxTrees$Symbols") (T := F_Symbols) (N := 5) hx hb hts (fun w h => List.mem_cons_of_mem _ (in_Symbols w h)) hown hK.1 hP 0 rfl rfl 3 (by decide +kernel) (hts _ (List.mem_cons_of_mem _ m_66)) (fun _ h9 => h9) rfl d_Symbols_append_41 ?_
  refine lv_iconst (v := (1 : Int32)) hx hb d_Symbols_append_44 (by decide +kernel) ?_
  refine lv_isub hx hb d_Symbols_append_45 ?_
  cases hf
  subst hQ
  exact W.iret hx hb hr (fun t ht _ => ⟨⟨_, (), rfl, rfl, by rw [ht]; exact hP, hD⟩, hS.F ht⟩) hS.2.2 d_Symbols_append_46
set_option maxHeartbeats 4000000 in
set_option maxRecDepth 100000 in
theorem c_Symbols_newConstant (l : Launch) (dC : Nat → ClassId) (dI : Nat → Nat → Nat) (cI cJ cB : ClassId) (a_S a_S_types a_S_ranks a_S_typeRanks : Nat)  (S_size : Int32) (S_sorts : Int32) (S_types : Nat → Int32) (S_ranks : Nat → Int32) (S_typeRanks : Nat → Int32)  (sz : Nat) (n : Nat) (o : Int32 × Int32 × (Nat → Int32) × (Nat → Int32) × (Nat → Int32)) (hf : f_Symbols_newConstant n S_size S_types S_ranks S_typeRanks = some o) : Met l y_Symbols_newConstant w_Symbols_newConstant ({ frames := 1, cells := 0, slots := 0, locals := 22 }) (va_Pc [.ref a_S] (fun U => U.heap.size = sz ∧ va_P (dC, dI) vwCl [(a_S, .inr (0, [.ref a_S_types, .ref a_S_ranks, .ref a_S_typeRanks, .int S_size, .int S_sorts])), (a_S_types, .inl (cI, 1000, .inl S_types)), (a_S_ranks, .inl (cI, 1000, .inl S_ranks)), (a_S_typeRanks, .inl (cI, 1000, .inl S_typeRanks))] U.heap ∧ x_K (dC, dI) [(cI, .int), (cJ, .long), (cB, .byte)] U ∧ va_D (fun _ => True) [(a_S, .inr (0, [.ref a_S_types, .ref a_S_ranks, .ref a_S_typeRanks, .int S_size, .int S_sorts])), (a_S_types, .inl (cI, 1000, .inl S_types)), (a_S_ranks, .inl (cI, 1000, .inl S_ranks)), (a_S_typeRanks, .inl (cI, 1000, .inl S_typeRanks))])) (va_Qi (fun r (_ : Unit) => r = o.1) (fun _ t => va_P (dC, dI) vwCl [(a_S, .inr (0, [.ref a_S_types, .ref a_S_ranks, .ref a_S_typeRanks, .int o.2.1, .int S_sorts])), (a_S_types, .inl (cI, 1000, .inl o.2.2.1)), (a_S_ranks, .inl (cI, 1000, .inl o.2.2.2.1)), (a_S_typeRanks, .inl (cI, 1000, .inl o.2.2.2.2))] t.heap ∧ va_D (va_A [(a_S, .inr (0, [.ref a_S_types, .ref a_S_ranks, .ref a_S_typeRanks, .int S_size, .int S_sorts])), (a_S_types, .inl (cI, 1000, .inl S_types)), (a_S_ranks, .inl (cI, 1000, .inl S_ranks)), (a_S_typeRanks, .inl (cI, 1000, .inl S_typeRanks))] sz) [(a_S, .inr (0, [.ref a_S_types, .ref a_S_ranks, .ref a_S_typeRanks, .int o.2.1, .int S_sorts])), (a_S_types, .inl (cI, 1000, .inl o.2.2.1)), (a_S_ranks, .inl (cI, 1000, .inl o.2.2.2.1)), (a_S_typeRanks, .inl (cI, 1000, .inl o.2.2.2.2))]) (va_A [(a_S, .inr (0, [.ref a_S_types, .ref a_S_ranks, .ref a_S_typeRanks, .int S_size, .int S_sorts])), (a_S_types, .inl (cI, 1000, .inl S_types)), (a_S_ranks, .inl (cI, 1000, .inl S_ranks)), (a_S_typeRanks, .inl (cI, 1000, .inl S_typeRanks))] sz)) 0 0 (va_A [(a_S, .inr (0, [.ref a_S_types, .ref a_S_ranks, .ref a_S_typeRanks, .int S_size, .int S_sorts])), (a_S_types, .inl (cI, 1000, .inl S_types)), (a_S_ranks, .inl (cI, 1000, .inl S_ranks)), (a_S_typeRanks, .inl (cI, 1000, .inl S_typeRanks))] sz) := by
  refine Met.ofW (cc := b_Symbols_newConstant) (maxL := 1) (ret := (some .int)) (by decide +kernel) rfl ?_
  intro p e s m args below meth c s₁ B hml hv
  obtain ⟨rfl, hsz, hP, hK, hD0⟩ := hv
  have hx := B.exec
  have hb := B.bytes
  have hr := B.returns
  have hts := atoms_spec (ws := w_Symbols_newConstant) B.pre
  have hown : s.vm.findClass "SyntaxTrees$Symbols" = some m.cls := findClass_of_methodNamed B.named
  have hlocks := B.notSynchronized
  subst hsz
  have hD := hD0.self (sz := s.heap.size)
  generalize hAe : va_A [(a_S, .inr (0, [.ref a_S_types, .ref a_S_ranks, .ref a_S_typeRanks, .int S_size, .int S_sorts])), (a_S_types, .inl (cI, 1000, .inl S_types)), (a_S_ranks, .inl (cI, 1000, .inl S_ranks)), (a_S_typeRanks, .inl (cI, 1000, .inl S_typeRanks))] s.heap.size = A at hD ⊢
  have hA : ∀ q : Nat, s.heap.size ≤ q → A q := fun q h => by rw [← hAe]; exact Or.inr h
  have hS : va_S A s.heap s.heap [] := va_S.rf
  have hP : va_P (dC, dI) vwCl [(a_S, .inr (0, [.ref a_S_types, .ref a_S_ranks, .ref a_S_typeRanks, .int S_size, .int S_sorts])), (a_S_types, .inl (cI, 1000, .inl S_types)), (a_S_ranks, .inl (cI, 1000, .inl S_ranks)), (a_S_typeRanks, .inl (cI, 1000, .inl S_typeRanks))] s.heap := hP
  have hl := lv_entry ([.ref a_S]) (n := 1) (Nat.le_of_ble_eq_true rfl)
  rw [lg_entry_eq]
  generalize (lg_sl ([.ref a_S]) ++ List.replicate (1 - (lg_sl ([.ref a_S])).length) Slot.unset).toArray = ls at hl ⊢
  have hl : lv_has ls 1 [(0, .ref a_S)] := hl
  refine x_Q (fun Q hQ => ?_)
  unfold f_Symbols_newConstant at hf
  refine lv_aload_n hx hb d_Symbols_newConstant_0 rfl (lv_at hl 0 rfl) ?_
  refine va_get (D := (dC, dI)) (ci := 0) (v := .int S_size) (C := "SyntaxTrees$Symbols") (T := F_Symbols) (N := 5) hx hb hts (fun w h => List.mem_cons_of_mem _ (in_Symbols w h)) hown hK.1 hP 0 rfl rfl 3 (by decide +kernel) (hts _ (List.mem_cons_of_mem _ m_66)) (fun _ h9 => h9) rfl d_Symbols_newConstant_1 ?_
  refine lv_sipush (v := (1000 : Int32)) hx hb d_Symbols_newConstant_4 (by decide +kernel) ?_
  refine lv_icmp_ge (tgt := 19) hx hb d_Symbols_newConstant_7 (by decide +kernel) (fun c1 => ?_) (fun c1 => ?_)
  · have hf := x_pos c1 hf
    refine lv_iconst (v := (-1 : Int32)) hx hb d_Symbols_newConstant_19 (by decide +kernel) ?_
    cases hf
    subst hQ
    exact W.iret hx hb hr (fun t ht _ => ⟨⟨_, (), rfl, rfl, by rw [ht]; exact hP, hD⟩, hS.F ht⟩) hS.2.2 d_Symbols_newConstant_20
  · have hf := x_neg c1 hf
    refine lv_aload_n hx hb d_Symbols_newConstant_10 rfl (lv_at hl 0 rfl) ?_
    refine lv_iconst (v := (-1 : Int32)) hx hb d_Symbols_newConstant_11 (by decide +kernel) ?_
    refine lv_iconst (v := (-1 : Int32)) hx hb d_Symbols_newConstant_12 (by decide +kernel) ?_
    obtain ⟨x2, hx2, hf⟩ := x_bd hf
    refine x_wriV (As := [.int (-1 : Int32), .int (-1 : Int32)]) (rest := []) (wc := [(a_S, .inr (0, [.ref a_S_types, .ref a_S_ranks, .ref a_S_typeRanks, .int S_size, .int S_sorts])), (a_S_types, .inl (cI, 1000, .inl S_types)), (a_S_ranks, .inl (cI, 1000, .inl S_ranks)), (a_S_typeRanks, .inl (cI, 1000, .inl S_typeRanks))]) (wr := []) (w1 := [(a_S, .inr (0, [.ref a_S_types, .ref a_S_ranks, .ref a_S_typeRanks, .int x2.2.1, .int S_sorts])), (a_S_types, .inl (cI, 1000, .inl x2.2.2.1)), (a_S_ranks, .inl (cI, 1000, .inl x2.2.2.2.1)), (a_S_typeRanks, .inl (cI, 1000, .inl x2.2.2.2.2))]) (wf := [(a_S, .inr (0, [.ref a_S_types, .ref a_S_ranks, .ref a_S_typeRanks, .int x2.2.1, .int S_sorts])), (a_S_types, .inl (cI, 1000, .inl x2.2.2.1)), (a_S_ranks, .inl (cI, 1000, .inl x2.2.2.2.1)), (a_S_typeRanks, .inl (cI, 1000, .inl x2.2.2.2.2))]) ⟨hx, hb, hml, hown, hts⟩ (c_Symbols_append l dC dI cI cJ cB a_S a_S_types a_S_ranks a_S_typeRanks S_size S_sorts S_types S_ranks S_typeRanks (-1 : Int32) (-1 : Int32) s.heap.size n x2 hx2) (cwV 2 hts (x_gV m_195 m_196 m_0 m_43 m_197) rfl rfl rfl hd_Symbols_append ⟨Nat.le_of_ble_eq_true rfl, Nat.le_of_ble_eq_true rfl⟩) hK hP hD hS hA [0, 1, 2, 3] [] [0, 1, 2, 3] rfl rfl rfl (by decide +kernel) (by decide +kernel) (by decide +kernel) (by decide +kernel) (ci := 0) (q0 := 0) rfl rfl rfl rfl hl.1 rfl (Nat.le_of_ble_eq_true rfl) d_Symbols_newConstant_13 ⟨Nat.le_of_ble_eq_true rfl, Nat.le_of_ble_eq_true rfl⟩ (fun H locs hP hD hS => ?_)
    refine lv_goto (tgt := 20) hx hb d_Symbols_newConstant_16 (by decide +kernel) ?_
    cases hf
    subst hQ
    exact W.iret hx hb hr (fun t ht _ => ⟨⟨_, (), rfl, rfl, by rw [ht]; exact hP, hD⟩, hS.F ht⟩) hS.2.2 d_Symbols_newConstant_20
set_option maxHeartbeats 4000000 in
set_option maxRecDepth 100000 in
theorem c_Symbols_newVariable (l : Launch) (dC : Nat → ClassId) (dI : Nat → Nat → Nat) (cI cJ cB : ClassId) (a_S a_S_types a_S_ranks a_S_typeRanks : Nat)  (S_size : Int32) (S_sorts : Int32) (S_types : Nat → Int32) (S_ranks : Nat → Int32) (S_typeRanks : Nat → Int32) (p1 : Int32) (sz : Nat) (n : Nat) (o : Int32 × Int32 × Int32 × (Nat → Int32) × (Nat → Int32) × (Nat → Int32)) (hf : f_Symbols_newVariable n S_size S_sorts S_types S_ranks S_typeRanks p1 = some o) : Met l y_Symbols_newVariable w_Symbols_newVariable ({ frames := 3, cells := 0, slots := 0, locals := 63 }) (va_Pc [.ref a_S, .int p1] (fun U => U.heap.size = sz ∧ va_P (dC, dI) vwCl [(a_S, .inr (0, [.ref a_S_types, .ref a_S_ranks, .ref a_S_typeRanks, .int S_size, .int S_sorts])), (a_S_types, .inl (cI, 1000, .inl S_types)), (a_S_ranks, .inl (cI, 1000, .inl S_ranks)), (a_S_typeRanks, .inl (cI, 1000, .inl S_typeRanks))] U.heap ∧ x_K (dC, dI) [(cI, .int), (cJ, .long), (cB, .byte)] U ∧ va_D (fun _ => True) [(a_S, .inr (0, [.ref a_S_types, .ref a_S_ranks, .ref a_S_typeRanks, .int S_size, .int S_sorts])), (a_S_types, .inl (cI, 1000, .inl S_types)), (a_S_ranks, .inl (cI, 1000, .inl S_ranks)), (a_S_typeRanks, .inl (cI, 1000, .inl S_typeRanks))])) (va_Qi (fun r (_ : Unit) => r = o.1) (fun _ t => va_P (dC, dI) vwCl [(a_S, .inr (0, [.ref a_S_types, .ref a_S_ranks, .ref a_S_typeRanks, .int o.2.1, .int o.2.2.1])), (a_S_types, .inl (cI, 1000, .inl o.2.2.2.1)), (a_S_ranks, .inl (cI, 1000, .inl o.2.2.2.2.1)), (a_S_typeRanks, .inl (cI, 1000, .inl o.2.2.2.2.2))] t.heap ∧ va_D (va_A [(a_S, .inr (0, [.ref a_S_types, .ref a_S_ranks, .ref a_S_typeRanks, .int S_size, .int S_sorts])), (a_S_types, .inl (cI, 1000, .inl S_types)), (a_S_ranks, .inl (cI, 1000, .inl S_ranks)), (a_S_typeRanks, .inl (cI, 1000, .inl S_typeRanks))] sz) [(a_S, .inr (0, [.ref a_S_types, .ref a_S_ranks, .ref a_S_typeRanks, .int o.2.1, .int o.2.2.1])), (a_S_types, .inl (cI, 1000, .inl o.2.2.2.1)), (a_S_ranks, .inl (cI, 1000, .inl o.2.2.2.2.1)), (a_S_typeRanks, .inl (cI, 1000, .inl o.2.2.2.2.2))]) (va_A [(a_S, .inr (0, [.ref a_S_types, .ref a_S_ranks, .ref a_S_typeRanks, .int S_size, .int S_sorts])), (a_S_types, .inl (cI, 1000, .inl S_types)), (a_S_ranks, .inl (cI, 1000, .inl S_ranks)), (a_S_typeRanks, .inl (cI, 1000, .inl S_typeRanks))] sz)) 0 0 (va_A [(a_S, .inr (0, [.ref a_S_types, .ref a_S_ranks, .ref a_S_typeRanks, .int S_size, .int S_sorts])), (a_S_types, .inl (cI, 1000, .inl S_types)), (a_S_ranks, .inl (cI, 1000, .inl S_ranks)), (a_S_typeRanks, .inl (cI, 1000, .inl S_typeRanks))] sz) := by
  refine Met.ofW (cc := b_Symbols_newVariable) (maxL := 2) (ret := (some .int)) (by decide +kernel) rfl ?_
  intro p e s m args below meth c s₁ B hml hv
  obtain ⟨rfl, hsz, hP, hK, hD0⟩ := hv
  have hx := B.exec
  have hb := B.bytes
  have hr := B.returns
  have hts := atoms_spec (ws := w_Symbols_newVariable) B.pre
  have hown : s.vm.findClass "SyntaxTrees$Symbols" = some m.cls := findClass_of_methodNamed B.named
  have hlocks := B.notSynchronized
  subst hsz
  have hD := hD0.self (sz := s.heap.size)
  generalize hAe : va_A [(a_S, .inr (0, [.ref a_S_types, .ref a_S_ranks, .ref a_S_typeRanks, .int S_size, .int S_sorts])), (a_S_types, .inl (cI, 1000, .inl S_types)), (a_S_ranks, .inl (cI, 1000, .inl S_ranks)), (a_S_typeRanks, .inl (cI, 1000, .inl S_typeRanks))] s.heap.size = A at hD ⊢
  have hA : ∀ q : Nat, s.heap.size ≤ q → A q := fun q h => by rw [← hAe]; exact Or.inr h
  have hS : va_S A s.heap s.heap [] := va_S.rf
  have hP : va_P (dC, dI) vwCl [(a_S, .inr (0, [.ref a_S_types, .ref a_S_ranks, .ref a_S_typeRanks, .int S_size, .int S_sorts])), (a_S_types, .inl (cI, 1000, .inl S_types)), (a_S_ranks, .inl (cI, 1000, .inl S_ranks)), (a_S_typeRanks, .inl (cI, 1000, .inl S_typeRanks))] s.heap := hP
  have hl := lv_entry ([.ref a_S, .int p1]) (n := 2) (Nat.le_of_ble_eq_true rfl)
  rw [lg_entry_eq]
  generalize (lg_sl ([.ref a_S, .int p1]) ++ List.replicate (2 - (lg_sl ([.ref a_S, .int p1])).length) Slot.unset).toArray = ls at hl ⊢
  have hl : lv_has ls 2 [(0, .ref a_S), (1, .int p1)] := hl
  refine x_Q (fun Q hQ => ?_)
  unfold f_Symbols_newVariable at hf
  refine lv_aload_n hx hb d_Symbols_newVariable_0 rfl (lv_at hl 0 rfl) ?_
  refine va_get (D := (dC, dI)) (ci := 0) (v := .int S_size) (C := "SyntaxTrees$Symbols") (T := F_Symbols) (N := 5) hx hb hts (fun w h => List.mem_cons_of_mem _ (in_Symbols w h)) hown hK.1 hP 0 rfl rfl 3 (by decide +kernel) (hts _ (List.mem_cons_of_mem _ m_66)) (fun _ h9 => h9) rfl d_Symbols_newVariable_1 ?_
  refine lv_sipush (v := (1000 : Int32)) hx hb d_Symbols_newVariable_4 (by decide +kernel) ?_
  refine lv_icmp_ge (tgt := 18) hx hb d_Symbols_newVariable_7 (by decide +kernel) (fun c1 => ?_) (fun c1 => ?_)
  · have hf := x_pos c1 hf
    refine lv_iconst (v := (-1 : Int32)) hx hb d_Symbols_newVariable_18 (by decide +kernel) ?_
    cases hf
    subst hQ
    exact W.iret hx hb hr (fun t ht _ => ⟨⟨_, (), rfl, rfl, by rw [ht]; exact hP, hD⟩, hS.F ht⟩) hS.2.2 d_Symbols_newVariable_19
  · have hf := x_neg c1 hf
    refine lv_aload_n hx hb d_Symbols_newVariable_10 rfl (lv_at hl 0 rfl) ?_
    refine lv_iload_n hx hb d_Symbols_newVariable_11 rfl (lv_at hl 1 rfl) ?_
    obtain ⟨x2, hx2, hf⟩ := x_bd hf
    refine x_wriV (As := [.int p1]) (rest := []) (wc := [(a_S, .inr (0, [.ref a_S_types, .ref a_S_ranks, .ref a_S_typeRanks, .int S_size, .int S_sorts])), (a_S_types, .inl (cI, 1000, .inl S_types)), (a_S_ranks, .inl (cI, 1000, .inl S_ranks))]) (wr := [(a_S_typeRanks, .inl (cI, 1000, .inl S_typeRanks))]) (w1 := [(a_S, .inr (0, [.ref a_S_types, .ref a_S_ranks, .ref a_S_typeRanks, .int S_size, .int x2.2.1])), (a_S_types, .inl (cI, 1000, .inl S_types)), (a_S_ranks, .inl (cI, 1000, .inl x2.2.2))]) (wf := [(a_S, .inr (0, [.ref a_S_types, .ref a_S_ranks, .ref a_S_typeRanks, .int S_size, .int x2.2.1])), (a_S_types, .inl (cI, 1000, .inl S_types)), (a_S_ranks, .inl (cI, 1000, .inl x2.2.2)), (a_S_typeRanks, .inl (cI, 1000, .inl S_typeRanks))]) ⟨hx, hb, hml, hown, hts⟩ (c_Symbols_becomesSort l dC dI cI cJ cB a_S a_S_types a_S_ranks a_S_typeRanks S_size S_sorts S_types S_ranks p1 s.heap.size n x2 hx2) (cwV 1 hts (x_gV m_202 m_203 m_204 m_43 m_205) rfl rfl rfl hd_Symbols_becomesSort ⟨Nat.le_of_ble_eq_true rfl, Nat.le_of_ble_eq_true rfl⟩) hK hP hD hS hA [0, 1, 2] [3] [1, 2, 3, 0] rfl rfl rfl (by decide +kernel) (by decide +kernel) (by decide +kernel) (by decide +kernel) (ci := 0) (q0 := 0) rfl rfl rfl rfl hl.1 rfl (Nat.le_of_ble_eq_true rfl) d_Symbols_newVariable_12 ⟨Nat.le_of_ble_eq_true rfl, Nat.le_of_ble_eq_true rfl⟩ (fun H locs hP hD hS => ?_)
    refine lv_if_ne (tgt := 20) hx hb d_Symbols_newVariable_15 (by decide +kernel) (fun c3 => ?_) (fun c3 => ?_)
    · have hf := x_neg c3 hf
      refine lv_aload_n hx hb d_Symbols_newVariable_20 rfl (lv_at hl 0 rfl) ?_
      refine lv_iload_n hx hb d_Symbols_newVariable_21 rfl (lv_at hl 1 rfl) ?_
      refine lv_aload_n hx hb d_Symbols_newVariable_22 rfl (lv_at hl 0 rfl) ?_
      refine lv_iload_n hx hb d_Symbols_newVariable_23 rfl (lv_at hl 1 rfl) ?_
      obtain ⟨x4, hx4, hf⟩ := x_bd hf
      refine x_rdiV (As := [.int p1]) (rest := [.int p1, .ref a_S]) (wc := [(a_S, .inr (0, [.ref a_S_types, .ref a_S_ranks, .ref a_S_typeRanks, .int S_size, .int x2.2.1])), (a_S_ranks, .inl (cI, 1000, .inl x2.2.2))]) ⟨hx, hb, hml, hown, hts⟩ (c_Symbols_rankOf l dC dI cI cJ cB a_S a_S_types a_S_ranks a_S_typeRanks S_size x2.2.1 x2.2.2 p1 n x4 hx4) (cwV 1 hts (x_gV m_214 m_215 m_216 m_43 m_217) rfl rfl rfl hd_Symbols_rankOf ⟨Nat.le_of_ble_eq_true rfl, Nat.le_of_ble_eq_true rfl⟩) hK hP [0, 2] rfl (ci := 0) (q0 := 0) rfl rfl rfl rfl hl.1 rfl (Nat.le_of_ble_eq_true rfl) d_Symbols_newVariable_24 ⟨Nat.le_of_ble_eq_true rfl, Nat.le_of_ble_eq_true rfl⟩ ?_
      obtain ⟨x5, hx5, hf⟩ := x_bd hf
      refine x_wriV (As := [.int p1, .int x4]) (rest := []) (wc := [(a_S, .inr (0, [.ref a_S_types, .ref a_S_ranks, .ref a_S_typeRanks, .int S_size, .int x2.2.1])), (a_S_types, .inl (cI, 1000, .inl S_types)), (a_S_ranks, .inl (cI, 1000, .inl x2.2.2)), (a_S_typeRanks, .inl (cI, 1000, .inl S_typeRanks))]) (wr := []) (w1 := [(a_S, .inr (0, [.ref a_S_types, .ref a_S_ranks, .ref a_S_typeRanks, .int x5.2.1, .int x2.2.1])), (a_S_types, .inl (cI, 1000, .inl x5.2.2.1)), (a_S_ranks, .inl (cI, 1000, .inl x5.2.2.2.1)), (a_S_typeRanks, .inl (cI, 1000, .inl x5.2.2.2.2))]) (wf := [(a_S, .inr (0, [.ref a_S_types, .ref a_S_ranks, .ref a_S_typeRanks, .int x5.2.1, .int x2.2.1])), (a_S_types, .inl (cI, 1000, .inl x5.2.2.1)), (a_S_ranks, .inl (cI, 1000, .inl x5.2.2.2.1)), (a_S_typeRanks, .inl (cI, 1000, .inl x5.2.2.2.2))]) ⟨hx, hb, hml, hown, hts⟩ (c_Symbols_append l dC dI cI cJ cB a_S a_S_types a_S_ranks a_S_typeRanks S_size x2.2.1 S_types x2.2.2 S_typeRanks p1 x4 H.size n x5 hx5) (cwV 2 hts (x_gV m_195 m_196 m_0 m_43 m_197) rfl rfl rfl hd_Symbols_append ⟨Nat.le_of_ble_eq_true rfl, Nat.le_of_ble_eq_true rfl⟩) hK hP hD hS hA [0, 1, 2, 3] [] [0, 1, 2, 3] rfl rfl rfl (by decide +kernel) (by decide +kernel) (by decide +kernel) (by decide +kernel) (ci := 0) (q0 := 0) rfl rfl rfl rfl hl.1 rfl (Nat.le_of_ble_eq_true rfl) d_Symbols_newVariable_27 ⟨Nat.le_of_ble_eq_true rfl, Nat.le_of_ble_eq_true rfl⟩ (fun H locs hP hD hS => ?_)
      cases hf
      subst hQ
      exact W.iret hx hb hr (fun t ht _ => ⟨⟨_, (), rfl, rfl, by rw [ht]; exact hP, hD⟩, hS.F ht⟩) hS.2.2 d_Symbols_newVariable_30
    · have hf := x_pos c3 hf
      refine lv_iconst (v := (-1 : Int32)) hx hb d_Symbols_newVariable_18 (by decide +kernel) ?_
      cases hf
      subst hQ
      exact W.iret hx hb hr (fun t ht _ => ⟨⟨_, (), rfl, rfl, by rw [ht]; exact hP, hD⟩, hS.F ht⟩) hS.2.2 d_Symbols_newVariable_19
