set_option maxHeartbeats 4000000 in
set_option maxRecDepth 100000 in
theorem c_Row_length (l : Launch) (dC : Nat → ClassId) (dI : Nat → Nat → Nat) (cI cJ cB : ClassId) (a_Z a_Z_row : Nat)  (Z_length : Int32)  (n : Nat) (o : Int32) (hf : f_Row_length n Z_length = some o) : Met l y_Row_length w_Row_length ({ frames := 0, cells := 0, slots := 0, locals := 0 }) (va_Pc [.ref a_Z] (fun U => va_P (dC, dI) vwCl [(a_Z, .inr (2, [.ref a_Z_row, .int Z_length]))] U.heap ∧ x_K (dC, dI) [(cI, .int), (cJ, .long), (cB, .byte)] U)) (QcRead o) 0 0 (fun _ => False) := by
  refine Met.ofW (cc := b_Row_length) (maxL := 1) (ret := (some .int)) (by decide +kernel) rfl ?_
  intro p e s m args below meth c s₁ B hml hv
  obtain ⟨rfl, hP, hK⟩ := hv
  have hx := B.exec
  have hb := B.bytes
  have hr := B.returns
  have hts := atoms_spec (ws := w_Row_length) B.pre
  have hown : s.vm.findClass "SyntaxTrees$Row" = some m.cls := findClass_of_methodNamed B.named
  have hlocks := B.notSynchronized
  have hP : va_P (dC, dI) vwCl [(a_Z, .inr (2, [.ref a_Z_row, .int Z_length]))] s.heap := hP
  have hl := lv_entry ([.ref a_Z]) (n := 1) (Nat.le_of_ble_eq_true rfl)
  rw [lg_entry_eq]
  generalize (lg_sl ([.ref a_Z]) ++ List.replicate (1 - (lg_sl ([.ref a_Z])).length) Slot.unset).toArray = ls at hl ⊢
  have hl : lv_has ls 1 [(0, .ref a_Z)] := hl
  refine x_Q (fun Q hQ => ?_)
  unfold f_Row_length at hf
  refine lv_aload_n hx hb d_Row_length_0 rfl (lv_at hl 0 rfl) ?_
  refine va_get (D := (dC, dI)) (ci := 2) (v := .int Z_length) (C := "SyntaxTrees$Row") (T := F_Row) (N := 2) hx hb hts (fun w h => List.mem_cons_of_mem _ (in_Row w h)) hown hK.1 hP 0 rfl rfl 1 (by decide +kernel) (hts _ (List.mem_cons_of_mem _ m_104)) (fun _ h9 => h9) rfl d_Row_length_1 ?_
  cases hf
  subst hQ
  exact W.iret hx hb hr (fun t ht _ => ⟨rfl, ht⟩) (fun _ h => absurd h List.not_mem_nil) d_Row_length_4
set_option maxHeartbeats 4000000 in
set_option maxRecDepth 100000 in
theorem c_Row_symbolAt (l : Launch) (dC : Nat → ClassId) (dI : Nat → Nat → Nat) (cI cJ cB : ClassId) (a_Z a_Z_row : Nat)  (Z_length : Int32) (Z_row : Nat → Int32) (p1 : Int32) (n : Nat) (o : Int32) (hf : f_Row_symbolAt n Z_length Z_row p1 = some o) : Met l y_Row_symbolAt w_Row_symbolAt ({ frames := 0, cells := 0, slots := 0, locals := 0 }) (va_Pc [.ref a_Z, .int p1] (fun U => va_P (dC, dI) vwCl [(a_Z, .inr (2, [.ref a_Z_row, .int Z_length])), (a_Z_row, .inl (cI, 59, .inl Z_row))] U.heap ∧ x_K (dC, dI) [(cI, .int), (cJ, .long), (cB, .byte)] U)) (QcRead o) 0 0 (fun _ => False) := by
  refine Met.ofW (cc := b_Row_symbolAt) (maxL := 2) (ret := (some .int)) (by decide +kernel) rfl ?_
  intro p e s m args below meth c s₁ B hml hv
  obtain ⟨rfl, hP, hK⟩ := hv
  have hx := B.exec
  have hb := B.bytes
  have hr := B.returns
  have hts := atoms_spec (ws := w_Row_symbolAt) B.pre
  have hown : s.vm.findClass "SyntaxTrees$Row" = some m.cls := findClass_of_methodNamed B.named
  have hlocks := B.notSynchronized
  have hP : va_P (dC, dI) vwCl [(a_Z, .inr (2, [.ref a_Z_row, .int Z_length])), (a_Z_row, .inl (cI, 59, .inl Z_row))] s.heap := hP
  have hl := lv_entry ([.ref a_Z, .int p1]) (n := 2) (Nat.le_of_ble_eq_true rfl)
  rw [lg_entry_eq]
  generalize (lg_sl ([.ref a_Z, .int p1]) ++ List.replicate (2 - (lg_sl ([.ref a_Z, .int p1])).length) Slot.unset).toArray = ls at hl ⊢
  have hl : lv_has ls 2 [(0, .ref a_Z), (1, .int p1)] := hl
  refine x_Q (fun Q hQ => ?_)
  unfold f_Row_symbolAt at hf
  refine lv_iload_n hx hb d_Row_symbolAt_0 rfl (lv_at hl 1 rfl) ?_
  refine lv_if_lt (tgt := 21) hx hb d_Row_symbolAt_1 (by decide +kernel) (fun c1 => ?_) (fun c1 => ?_)
  · have hf := x_pos c1 hf
    refine lv_iconst (v := (-1 : Int32)) hx hb d_Row_symbolAt_21 (by decide +kernel) ?_
    cases hf
    subst hQ
    exact W.iret hx hb hr (fun t ht _ => ⟨rfl, ht⟩) (fun _ h => absurd h List.not_mem_nil) d_Row_symbolAt_22
  · have hf := x_neg c1 hf
    refine lv_iload_n hx hb d_Row_symbolAt_4 rfl (lv_at hl 1 rfl) ?_
    refine lv_aload_n hx hb d_Row_symbolAt_5 rfl (lv_at hl 0 rfl) ?_
    refine va_get (D := (dC, dI)) (ci := 2) (v := .int Z_length) (C := "SyntaxTrees$Row") (T := F_Row) (N := 2) hx hb hts (fun w h => List.mem_cons_of_mem _ (in_Row w h)) hown hK.1 hP 0 rfl rfl 1 (by decide +kernel) (hts _ (List.mem_cons_of_mem _ m_104)) (fun _ h9 => h9) rfl d_Row_symbolAt_6 ?_
    refine lv_icmp_ge (tgt := 21) hx hb d_Row_symbolAt_9 (by decide +kernel) (fun c2 => ?_) (fun c2 => ?_)
    · have hf := x_pos c2 hf
      refine lv_iconst (v := (-1 : Int32)) hx hb d_Row_symbolAt_21 (by decide +kernel) ?_
      cases hf
      subst hQ
      exact W.iret hx hb hr (fun t ht _ => ⟨rfl, ht⟩) (fun _ h => absurd h List.not_mem_nil) d_Row_symbolAt_22
    · have hf := x_neg c2 hf
      refine lv_aload_n hx hb d_Row_symbolAt_12 rfl (lv_at hl 0 rfl) ?_
      refine va_get (D := (dC, dI)) (ci := 2) (v := .ref a_Z_row) (C := "SyntaxTrees$Row") (T := F_Row) (N := 2) hx hb hts (fun w h => List.mem_cons_of_mem _ (in_Row w h)) hown hK.1 hP 0 rfl rfl 0 (by decide +kernel) (hts _ (List.mem_cons_of_mem _ m_103)) (fun _ h9 => h9) rfl d_Row_symbolAt_13 ?_
      refine lv_iload_n hx hb d_Row_symbolAt_16 rfl (lv_at hl 1 rfl) ?_
      obtain ⟨h3, hf⟩ := x_gd hf
      refine va_iald hx hb hK.1 hP 1 0 rfl rfl h3 d_Row_symbolAt_17 ?_
      refine lv_goto (tgt := 22) hx hb d_Row_symbolAt_18 (by decide +kernel) ?_
      cases hf
      subst hQ
      exact W.iret hx hb hr (fun t ht _ => ⟨rfl, ht⟩) (fun _ h => absurd h List.not_mem_nil) d_Row_symbolAt_22
set_option maxHeartbeats 4000000 in
set_option maxRecDepth 100000 in
theorem c_Row_lengthen (l : Launch) (dC : Nat → ClassId) (dI : Nat → Nat → Nat) (cI cJ cB : ClassId) (a_Z a_Z_row : Nat)  (Z_length : Int32) (Z_row : Nat → Int32) (p1 : Int32) (sz : Nat) (n : Nat) (o : Int32 × Int32 × (Nat → Int32)) (hf : f_Row_lengthen n Z_length Z_row p1 = some o) : Met l y_Row_lengthen w_Row_lengthen ({ frames := 0, cells := 0, slots := 0, locals := 0 }) (va_Pc [.ref a_Z, .int p1] (fun U => U.heap.size = sz ∧ va_P (dC, dI) vwCl [(a_Z, .inr (2, [.ref a_Z_row, .int Z_length])), (a_Z_row, .inl (cI, 59, .inl Z_row))] U.heap ∧ x_K (dC, dI) [(cI, .int), (cJ, .long), (cB, .byte)] U ∧ va_D (fun _ => True) [(a_Z, .inr (2, [.ref a_Z_row, .int Z_length])), (a_Z_row, .inl (cI, 59, .inl Z_row))])) (va_Qi (fun r (_ : Unit) => r = o.1) (fun _ t => va_P (dC, dI) vwCl [(a_Z, .inr (2, [.ref a_Z_row, .int o.2.1])), (a_Z_row, .inl (cI, 59, .inl o.2.2))] t.heap ∧ va_D (va_A [(a_Z, .inr (2, [.ref a_Z_row, .int Z_length])), (a_Z_row, .inl (cI, 59, .inl Z_row))] sz) [(a_Z, .inr (2, [.ref a_Z_row, .int o.2.1])), (a_Z_row, .inl (cI, 59, .inl o.2.2))]) (va_A [(a_Z, .inr (2, [.ref a_Z_row, .int Z_length])), (a_Z_row, .inl (cI, 59, .inl Z_row))] sz)) 0 0 (va_A [(a_Z, .inr (2, [.ref a_Z_row, .int Z_length])), (a_Z_row, .inl (cI, 59, .inl Z_row))] sz) := by
  refine Met.ofW (cc := b_Row_lengthen) (maxL := 2) (ret := (some .int)) (by decide +kernel) rfl ?_
  intro p e s m args below meth c s₁ B hml hv
  obtain ⟨rfl, hsz, hP, hK, hD0⟩ := hv
  have hx := B.exec
  have hb := B.bytes
  have hr := B.returns
  have hts := atoms_spec (ws := w_Row_lengthen) B.pre
  have hown : s.vm.findClass "SyntaxTrees$Row" = some m.cls := findClass_of_methodNamed B.named
  have hlocks := B.notSynchronized
  subst hsz
  have hD := hD0.self (sz := s.heap.size)
  generalize hAe : va_A [(a_Z, .inr (2, [.ref a_Z_row, .int Z_length])), (a_Z_row, .inl (cI, 59, .inl Z_row))] s.heap.size = A at hD ⊢
  have hA : ∀ q : Nat, s.heap.size ≤ q → A q := fun q h => by rw [← hAe]; exact Or.inr h
  have hS : va_S A s.heap s.heap [] := va_S.rf
  have hP : va_P (dC, dI) vwCl [(a_Z, .inr (2, [.ref a_Z_row, .int Z_length])), (a_Z_row, .inl (cI, 59, .inl Z_row))] s.heap := hP
  have hl := lv_entry ([.ref a_Z, .int p1]) (n := 2) (Nat.le_of_ble_eq_true rfl)
  rw [lg_entry_eq]
  generalize (lg_sl ([.ref a_Z, .int p1]) ++ List.replicate (2 - (lg_sl ([.ref a_Z, .int p1])).length) Slot.unset).toArray = ls at hl ⊢
  have hl : lv_has ls 2 [(0, .ref a_Z), (1, .int p1)] := hl
  refine x_Q (fun Q hQ => ?_)
  unfold f_Row_lengthen at hf
  refine lv_aload_n hx hb d_Row_lengthen_0 rfl (lv_at hl 0 rfl) ?_
  refine va_get (D := (dC, dI)) (ci := 2) (v := .int Z_length) (C := "SyntaxTrees$Row") (T := F_Row) (N := 2) hx hb hts (fun w h => List.mem_cons_of_mem _ (in_Row w h)) hown hK.1 hP 0 rfl rfl 1 (by decide +kernel) (hts _ (List.mem_cons_of_mem _ m_104)) (fun _ h9 => h9) rfl d_Row_lengthen_1 ?_
  refine lv_bipush (v := (59 : Int32)) hx hb d_Row_lengthen_4 (by decide +kernel) ?_
  refine lv_icmp_lt (tgt := 11) hx hb d_Row_lengthen_6 (by decide +kernel) (fun c1 => ?_) (fun c1 => ?_)
  · have hf := x_pos c1 hf
    refine lv_aload_n hx hb d_Row_lengthen_11 rfl (lv_at hl 0 rfl) ?_
    refine va_get (D := (dC, dI)) (ci := 2) (v := .ref a_Z_row) (C := "SyntaxTrees$Row") (T := F_Row) (N := 2) hx hb hts (fun w h => List.mem_cons_of_mem _ (in_Row w h)) hown hK.1 hP 0 rfl rfl 0 (by decide +kernel) (hts _ (List.mem_cons_of_mem _ m_103)) (fun _ h9 => h9) rfl d_Row_lengthen_12 ?_
    refine lv_aload_n hx hb d_Row_lengthen_15 rfl (lv_at hl 0 rfl) ?_
    refine va_get (D := (dC, dI)) (ci := 2) (v := .int Z_length) (C := "SyntaxTrees$Row") (T := F_Row) (N := 2) hx hb hts (fun w h => List.mem_cons_of_mem _ (in_Row w h)) hown hK.1 hP 0 rfl rfl 1 (by decide +kernel) (hts _ (List.mem_cons_of_mem _ m_104)) (fun _ h9 => h9) rfl d_Row_lengthen_16 ?_
    refine lv_iload_n hx hb d_Row_lengthen_19 rfl (lv_at hl 1 rfl) ?_
    obtain ⟨h2, hf⟩ := x_gd hf
    refine x_iast (w1 := [(a_Z, .inr (2, [.ref a_Z_row, .int Z_length])), (a_Z_row, .inl (cI, 59, .inl (upd Z_row Z_length.toNatClampNeg p1)))]) hx hb hK.1 hP hD hS 1 0 rfl rfl h2 d_Row_lengthen_20 rfl (fun H locs hP hD hS => ?_)
    refine lv_aload_n hx hb d_Row_lengthen_21 rfl (lv_at hl 0 rfl) ?_
    refine lv_dup hx hb d_Row_lengthen_22 rfl ?_
    refine va_get (D := (dC, dI)) (ci := 2) (v := .int Z_length) (C := "SyntaxTrees$Row") (T := F_Row) (N := 2) hx hb hts (fun w h => List.mem_cons_of_mem _ (in_Row w h)) hown hK.1 hP 0 rfl rfl 1 (by decide +kernel) (hts _ (List.mem_cons_of_mem _ m_104)) (fun _ h9 => h9) rfl d_Row_lengthen_23 ?_
    refine lv_iconst (v := (1 : Int32)) hx hb d_Row_lengthen_26 (by decide +kernel) ?_
    refine lv_iadd hx hb d_Row_lengthen_27 ?_
    refine x_put (D := (dC, dI)) (ci := 2) (v := .int (Z_length + (1 : Int32))) (ty := .int) (C := "SyntaxTrees$Row") (T := F_Row) (N := 2) (w1 := [(a_Z, .inr (2, [.ref a_Z_row, .int (Z_length + (1 : Int32))])), (a_Z_row, .inl (cI, 59, .inl (upd Z_row Z_length.toNatClampNeg p1)))]) hx hb hts (fun w h => List.mem_cons_of_mem _ (in_Row w h)) t_Row t_Row_ok n_Row hown hK.1 hP hD hS 0 rfl rfl 1 (by decide +kernel) (hts _ (List.mem_cons_of_mem _ m_104)) (fun _ h9 => h9) rfl (by decide +kernel) rfl rfl (Nat.le_of_ble_eq_true rfl) d_Row_lengthen_28 rfl (fun H locs hP hD hS => ?_)
    refine lv_aload_n hx hb d_Row_lengthen_31 rfl (lv_at hl 0 rfl) ?_
    refine va_get (D := (dC, dI)) (ci := 2) (v := .int (Z_length + (1 : Int32))) (C := "SyntaxTrees$Row") (T := F_Row) (N := 2) hx hb hts (fun w h => List.mem_cons_of_mem _ (in_Row w h)) hown hK.1 hP 0 rfl rfl 1 (by decide +kernel) (hts _ (List.mem_cons_of_mem _ m_104)) (fun _ h9 => h9) rfl d_Row_lengthen_32 ?_
    cases hf
    subst hQ
    exact W.iret hx hb hr (fun t ht _ => ⟨⟨_, (), rfl, rfl, by rw [ht]; exact hP, hD⟩, hS.F ht⟩) hS.2.2 d_Row_lengthen_35
  · have hf := x_neg c1 hf
    refine lv_iconst (v := (-1 : Int32)) hx hb d_Row_lengthen_9 (by decide +kernel) ?_
    cases hf
    subst hQ
    exact W.iret hx hb hr (fun t ht _ => ⟨⟨_, (), rfl, rfl, by rw [ht]; exact hP, hD⟩, hS.F ht⟩) hS.2.2 d_Row_lengthen_10
set_option maxHeartbeats 4000000 in
set_option maxRecDepth 100000 in
theorem c_Row_clear (l : Launch) (dC : Nat → ClassId) (dI : Nat → Nat → Nat) (cI cJ cB : ClassId) (a_Z a_Z_row : Nat)  (Z_length : Int32)  (sz : Nat) (n : Nat) (o : Int32 × Int32) (hf : f_Row_clear n Z_length = some o) : Met l y_Row_clear w_Row_clear ({ frames := 0, cells := 0, slots := 0, locals := 0 }) (va_Pc [.ref a_Z] (fun U => U.heap.size = sz ∧ va_P (dC, dI) vwCl [(a_Z, .inr (2, [.ref a_Z_row, .int Z_length]))] U.heap ∧ x_K (dC, dI) [(cI, .int), (cJ, .long), (cB, .byte)] U ∧ va_D (fun _ => True) [(a_Z, .inr (2, [.ref a_Z_row, .int Z_length]))])) (va_Qi (fun r (_ : Unit) => r = o.1) (fun _ t => va_P (dC, dI) vwCl [(a_Z, .inr (2, [.ref a_Z_row, .int o.2]))] t.heap ∧ va_D (va_A [(a_Z, .inr (2, [.ref a_Z_row, .int Z_length]))] sz) [(a_Z, .inr (2, [.ref a_Z_row, .int o.2]))]) (va_A [(a_Z, .inr (2, [.ref a_Z_row, .int Z_length]))] sz)) 0 0 (va_A [(a_Z, .inr (2, [.ref a_Z_row, .int Z_length]))] sz) := by
  refine Met.ofW (cc := b_Row_clear) (maxL := 2) (ret := (some .int)) (by decide +kernel) rfl ?_
  intro p e s m args below meth c s₁ B hml hv
  obtain ⟨rfl, hsz, hP, hK, hD0⟩ := hv
  have hx := B.exec
  have hb := B.bytes
  have hr := B.returns
  have hts := atoms_spec (ws := w_Row_clear) B.pre
  have hown : s.vm.findClass "SyntaxTrees$Row" = some m.cls := findClass_of_methodNamed B.named
  have hlocks := B.notSynchronized
  subst hsz
  have hD := hD0.self (sz := s.heap.size)
  generalize hAe : va_A [(a_Z, .inr (2, [.ref a_Z_row, .int Z_length]))] s.heap.size = A at hD ⊢
  have hA : ∀ q : Nat, s.heap.size ≤ q → A q := fun q h => by rw [← hAe]; exact Or.inr h
  have hS : va_S A s.heap s.heap [] := va_S.rf
  have hP : va_P (dC, dI) vwCl [(a_Z, .inr (2, [.ref a_Z_row, .int Z_length]))] s.heap := hP
  have hl := lv_entry ([.ref a_Z]) (n := 2) (Nat.le_of_ble_eq_true rfl)
  rw [lg_entry_eq]
  generalize (lg_sl ([.ref a_Z]) ++ List.replicate (2 - (lg_sl ([.ref a_Z])).length) Slot.unset).toArray = ls at hl ⊢
  have hl : lv_has ls 2 [(0, .ref a_Z)] := hl
  refine x_Q (fun Q hQ => ?_)
  unfold f_Row_clear at hf
  refine lv_aload_n hx hb d_Row_clear_0 rfl (lv_at hl 0 rfl) ?_
  refine va_get (D := (dC, dI)) (ci := 2) (v := .int Z_length) (C := "SyntaxTrees$Row") (T := F_Row) (N := 2) hx hb hts (fun w h => List.mem_cons_of_mem _ (in_Row w h)) hown hK.1 hP 0 rfl rfl 1 (by decide +kernel) (hts _ (List.mem_cons_of_mem _ m_104)) (fun _ h9 => h9) rfl d_Row_clear_1 ?_
  refine lv_istore_n (lv' := [(1, .int Z_length), (0, .ref a_Z)]) hx hb d_Row_clear_4 rfl hl (by decide +kernel) rfl (fun ls hl => ?_)
  refine lv_aload_n hx hb d_Row_clear_5 rfl (lv_at hl 1 rfl) ?_
  refine lv_iconst (v := (0 : Int32)) hx hb d_Row_clear_6 (by decide +kernel) ?_
  refine x_put (D := (dC, dI)) (ci := 2) (v := .int (0 : Int32)) (ty := .int) (C := "SyntaxTrees$Row") (T := F_Row) (N := 2) (w1 := [(a_Z, .inr (2, [.ref a_Z_row, .int (0 : Int32)]))]) hx hb hts (fun w h => List.mem_cons_of_mem _ (in_Row w h)) t_Row t_Row_ok n_Row hown hK.1 hP hD hS 0 rfl rfl 1 (by decide +kernel) (hts _ (List.mem_cons_of_mem _ m_104)) (fun _ h9 => h9) rfl (by decide +kernel) rfl rfl (Nat.le_of_ble_eq_true rfl) d_Row_clear_7 rfl (fun H locs hP hD hS => ?_)
  refine lv_iload_n hx hb d_Row_clear_10 rfl (lv_at hl 0 rfl) ?_
  cases hf
  subst hQ
  exact W.iret hx hb hr (fun t ht _ => ⟨⟨_, (), rfl, rfl, by rw [ht]; exact hP, hD⟩, hS.F ht⟩) hS.2.2 d_Row_clear_11
set_option maxHeartbeats 4000000 in
set_option maxRecDepth 100000 in
theorem w_Row_copy_L10 {p : Program} {l : Launch} {e : Env} {s : State} {m : MethodId} {args : Array Value} {below : List Frame} {meth : Method} {c : Code} {dC : Nat → ClassId} {dI : Nat → Nat → Nat} {cI cJ cB : ClassId} {a_Z a_Z_row a_Y a_Y_row : Nat} {A : Nat → Prop} {Q : State → Prop} (n : Nat)  (Z_length : Int32) (Y_length : Int32) (Y_row : Nat → Int32) (hx : p.tables.exec = Jvm.exec) (hb : c.code = b_Row_copy) (hml : c.maxLocals = 3) (hown : s.vm.findClass "SyntaxTrees$Row" = some m.cls) (hts : ∀ w ∈ w_Row_copy, w.before args s = true) (hK : x_K (dC, dI) [(cI, .int), (cJ, .long), (cB, .byte)] s) (hA : ∀ q, s.heap.size ≤ q → A q) : ∀ (k : Nat) (v2 : Int32) (Z_row : Nat → Int32) (o : Int32 × (Nat → Int32)) (H : Heap) (locs : List Loc) (ls : Array Slot), f_Row_copy_L10 n Z_length Y_row k v2 Z_row = some o → va_P (dC, dI) vwCl [(a_Z, .inr (2, [.ref a_Z_row, .int Z_length])), (a_Z_row, .inl (cI, 59, .inl Z_row)), (a_Y, .inr (2, [.ref a_Y_row, .int Y_length])), (a_Y_row, .inl (cI, 59, .inl Y_row))] H → va_D A [(a_Z, .inr (2, [.ref a_Z_row, .int Z_length])), (a_Z_row, .inl (cI, 59, .inl Z_row)), (a_Y, .inr (2, [.ref a_Y_row, .int Y_length])), (a_Y_row, .inl (cI, 59, .inl Y_row))] → va_S A s.heap H locs → lv_has ls 3 [(2, .int v2), (0, .ref a_Z), (1, .ref a_Y)] → (∀ (H : Heap) (locs : List Loc) (ls : Array Slot), va_P (dC, dI) vwCl [(a_Z, .inr (2, [.ref a_Z_row, .int Z_length])), (a_Z_row, .inl (cI, 59, .inl o.2)), (a_Y, .inr (2, [.ref a_Y_row, .int Y_length])), (a_Y_row, .inl (cI, 59, .inl Y_row))] H → va_D A [(a_Z, .inr (2, [.ref a_Z_row, .int Z_length])), (a_Z_row, .inl (cI, 59, .inl o.2)), (a_Y, .inr (2, [.ref a_Y_row, .int Y_length])), (a_Y_row, .inl (cI, 59, .inl Y_row))] → va_S A s.heap H locs → lv_has ls 3 [(2, .int o.1), (0, .ref a_Z), (1, .ref a_Y)] → W p l e ({ frames := 0, cells := 0, slots := 0, locals := 0 }) s m args below meth c H locs 0 0 Q (F0 m 36 ls [])) → W p l e ({ frames := 0, cells := 0, slots := 0, locals := 0 }) s m args below meth c H locs 0 0 Q (F0 m 10 ls []) := by
  intro k
  induction k with
  | zero =>
    intro v2 Z_row o H locs ls hf
    exact absurd hf (by simp [f_Row_copy_L10])
  | succ k ih =>
    intro v2 Z_row o H locs ls hf hP hD hS hl kk
    rw [f_Row_copy_L10] at hf
    refine lv_iload_n hx hb d_Row_copy_10 rfl (lv_at hl 0 rfl) ?_
    refine lv_aload_n hx hb d_Row_copy_11 rfl (lv_at hl 1 rfl) ?_
    refine va_get (D := (dC, dI)) (ci := 2) (v := .int Z_length) (C := "SyntaxTrees$Row") (T := F_Row) (N := 2) hx hb hts (fun w h => List.mem_cons_of_mem _ (in_Row w h)) hown hK.1 hP 0 rfl rfl 1 (by decide +kernel) (hts _ (List.mem_cons_of_mem _ m_104)) (fun _ h9 => h9) rfl d_Row_copy_12 ?_
    refine lv_icmp_ge (tgt := 36) hx hb d_Row_copy_15 (by decide +kernel) (fun c1 => ?_) (fun c1 => ?_)
    · have hf := x_pos c1 hf
      cases hf
      exact kk _ _ ls hP hD hS (lv_sub hl [0, 1, 2] rfl)
    · have hf := x_neg c1 hf
      refine lv_aload_n hx hb d_Row_copy_18 rfl (lv_at hl 1 rfl) ?_
      refine va_get (D := (dC, dI)) (ci := 2) (v := .ref a_Z_row) (C := "SyntaxTrees$Row") (T := F_Row) (N := 2) hx hb hts (fun w h => List.mem_cons_of_mem _ (in_Row w h)) hown hK.1 hP 0 rfl rfl 0 (by decide +kernel) (hts _ (List.mem_cons_of_mem _ m_103)) (fun _ h9 => h9) rfl d_Row_copy_19 ?_
      refine lv_iload_n hx hb d_Row_copy_22 rfl (lv_at hl 0 rfl) ?_
      refine lv_aload_n hx hb d_Row_copy_23 rfl (lv_at hl 2 rfl) ?_
      refine va_get (D := (dC, dI)) (ci := 2) (v := .ref a_Y_row) (C := "SyntaxTrees$Row") (T := F_Row) (N := 2) hx hb hts (fun w h => List.mem_cons_of_mem _ (in_Row w h)) hown hK.1 hP 2 rfl rfl 0 (by decide +kernel) (hts _ (List.mem_cons_of_mem _ m_103)) (fun _ h9 => h9) rfl d_Row_copy_24 ?_
      refine lv_iload_n hx hb d_Row_copy_27 rfl (lv_at hl 0 rfl) ?_
      obtain ⟨h2, hf⟩ := x_gd hf
      refine va_iald hx hb hK.1 hP 3 0 rfl rfl h2 d_Row_copy_28 ?_
      obtain ⟨h3, hf⟩ := x_gd hf
      refine x_iast (w1 := [(a_Z, .inr (2, [.ref a_Z_row, .int Z_length])), (a_Z_row, .inl (cI, 59, .inl (upd Z_row v2.toNatClampNeg (Y_row v2.toNatClampNeg)))), (a_Y, .inr (2, [.ref a_Y_row, .int Y_length])), (a_Y_row, .inl (cI, 59, .inl Y_row))]) hx hb hK.1 hP hD hS 1 0 rfl rfl h3 d_Row_copy_29 rfl (fun H locs hP hD hS => ?_)
      refine lv_iinc (v := (v2 + (1 : Int32))) (lv' := [(2, .int (v2 + (1 : Int32))), (0, .ref a_Z), (1, .ref a_Y)]) hx hb d_Row_copy_30 hl (k := 0) rfl rfl (by decide +kernel) rfl (fun ls hl => ?_)
      refine lv_goto (tgt := 10) hx hb d_Row_copy_33 (by decide +kernel) ?_
      exact ih (v2 + (1 : Int32)) (upd Z_row v2.toNatClampNeg (Y_row v2.toNatClampNeg)) o _ _ ls hf hP hD hS (lv_sub hl [0, 1, 2] rfl) kk
set_option maxHeartbeats 4000000 in
set_option maxRecDepth 100000 in
theorem c_Row_copy (l : Launch) (dC : Nat → ClassId) (dI : Nat → Nat → Nat) (cI cJ cB : ClassId) (a_Z a_Z_row a_Y a_Y_row : Nat)  (Z_length : Int32) (Z_row : Nat → Int32) (Y_length : Int32) (Y_row : Nat → Int32)  (sz : Nat) (n : Nat) (o : Int32 × (Nat → Int32)) (hf : f_Row_copy n Z_row Y_length Y_row = some o) : Met l y_Row_copy w_Row_copy ({ frames := 0, cells := 0, slots := 0, locals := 0 }) (va_Pc [.ref a_Z, .ref a_Y] (fun U => U.heap.size = sz ∧ va_P (dC, dI) vwCl [(a_Z, .inr (2, [.ref a_Z_row, .int Z_length])), (a_Z_row, .inl (cI, 59, .inl Z_row)), (a_Y, .inr (2, [.ref a_Y_row, .int Y_length])), (a_Y_row, .inl (cI, 59, .inl Y_row))] U.heap ∧ x_K (dC, dI) [(cI, .int), (cJ, .long), (cB, .byte)] U ∧ va_D (fun _ => True) [(a_Z, .inr (2, [.ref a_Z_row, .int Z_length])), (a_Z_row, .inl (cI, 59, .inl Z_row)), (a_Y, .inr (2, [.ref a_Y_row, .int Y_length])), (a_Y_row, .inl (cI, 59, .inl Y_row))])) (va_Qv (fun (_ : Unit) => True) (fun _ t => va_P (dC, dI) vwCl [(a_Z, .inr (2, [.ref a_Z_row, .int o.1])), (a_Z_row, .inl (cI, 59, .inl o.2)), (a_Y, .inr (2, [.ref a_Y_row, .int Y_length])), (a_Y_row, .inl (cI, 59, .inl Y_row))] t.heap ∧ va_D (va_A [(a_Z, .inr (2, [.ref a_Z_row, .int Z_length])), (a_Z_row, .inl (cI, 59, .inl Z_row)), (a_Y, .inr (2, [.ref a_Y_row, .int Y_length])), (a_Y_row, .inl (cI, 59, .inl Y_row))] sz) [(a_Z, .inr (2, [.ref a_Z_row, .int o.1])), (a_Z_row, .inl (cI, 59, .inl o.2)), (a_Y, .inr (2, [.ref a_Y_row, .int Y_length])), (a_Y_row, .inl (cI, 59, .inl Y_row))]) (va_A [(a_Z, .inr (2, [.ref a_Z_row, .int Z_length])), (a_Z_row, .inl (cI, 59, .inl Z_row)), (a_Y, .inr (2, [.ref a_Y_row, .int Y_length])), (a_Y_row, .inl (cI, 59, .inl Y_row))] sz)) 0 0 (va_A [(a_Z, .inr (2, [.ref a_Z_row, .int Z_length])), (a_Z_row, .inl (cI, 59, .inl Z_row)), (a_Y, .inr (2, [.ref a_Y_row, .int Y_length])), (a_Y_row, .inl (cI, 59, .inl Y_row))] sz) := by
  refine Met.ofW (cc := b_Row_copy) (maxL := 3) (ret := none) (by decide +kernel) rfl ?_
  intro p e s m args below meth c s₁ B hml hv
  obtain ⟨rfl, hsz, hP, hK, hD0⟩ := hv
  have hx := B.exec
  have hb := B.bytes
  have hr := B.returns
  have hts := atoms_spec (ws := w_Row_copy) B.pre
  have hown : s.vm.findClass "SyntaxTrees$Row" = some m.cls := findClass_of_methodNamed B.named
  have hlocks := B.notSynchronized
  subst hsz
  have hD := hD0.self (sz := s.heap.size)
  generalize hAe : va_A [(a_Z, .inr (2, [.ref a_Z_row, .int Z_length])), (a_Z_row, .inl (cI, 59, .inl Z_row)), (a_Y, .inr (2, [.ref a_Y_row, .int Y_length])), (a_Y_row, .inl (cI, 59, .inl Y_row))] s.heap.size = A at hD ⊢
  have hA : ∀ q : Nat, s.heap.size ≤ q → A q := fun q h => by rw [← hAe]; exact Or.inr h
  have hS : va_S A s.heap s.heap [] := va_S.rf
  have hP : va_P (dC, dI) vwCl [(a_Z, .inr (2, [.ref a_Z_row, .int Z_length])), (a_Z_row, .inl (cI, 59, .inl Z_row)), (a_Y, .inr (2, [.ref a_Y_row, .int Y_length])), (a_Y_row, .inl (cI, 59, .inl Y_row))] s.heap := hP
  have hl := lv_entry ([.ref a_Z, .ref a_Y]) (n := 3) (Nat.le_of_ble_eq_true rfl)
  rw [lg_entry_eq]
  generalize (lg_sl ([.ref a_Z, .ref a_Y]) ++ List.replicate (3 - (lg_sl ([.ref a_Z, .ref a_Y])).length) Slot.unset).toArray = ls at hl ⊢
  have hl : lv_has ls 3 [(0, .ref a_Z), (1, .ref a_Y)] := hl
  refine x_Q (fun Q hQ => ?_)
  unfold f_Row_copy at hf
  refine lv_aload_n hx hb d_Row_copy_0 rfl (lv_at hl 0 rfl) ?_
  refine lv_aload_n hx hb d_Row_copy_1 rfl (lv_at hl 1 rfl) ?_
  refine va_get (D := (dC, dI)) (ci := 2) (v := .int Y_length) (C := "SyntaxTrees$Row") (T := F_Row) (N := 2) hx hb hts (fun w h => List.mem_cons_of_mem _ (in_Row w h)) hown hK.1 hP 2 rfl rfl 1 (by decide +kernel) (hts _ (List.mem_cons_of_mem _ m_104)) (fun _ h9 => h9) rfl d_Row_copy_2 ?_
  refine x_put (D := (dC, dI)) (ci := 2) (v := .int Y_length) (ty := .int) (C := "SyntaxTrees$Row") (T := F_Row) (N := 2) (w1 := [(a_Z, .inr (2, [.ref a_Z_row, .int Y_length])), (a_Z_row, .inl (cI, 59, .inl Z_row)), (a_Y, .inr (2, [.ref a_Y_row, .int Y_length])), (a_Y_row, .inl (cI, 59, .inl Y_row))]) hx hb hts (fun w h => List.mem_cons_of_mem _ (in_Row w h)) t_Row t_Row_ok n_Row hown hK.1 hP hD hS 0 rfl rfl 1 (by decide +kernel) (hts _ (List.mem_cons_of_mem _ m_104)) (fun _ h9 => h9) rfl (by decide +kernel) rfl rfl (Nat.le_of_ble_eq_true rfl) d_Row_copy_5 rfl (fun H locs hP hD hS => ?_)
  refine lv_iconst (v := (0 : Int32)) hx hb d_Row_copy_8 (by decide +kernel) ?_
  refine lv_istore_n (lv' := [(2, .int (0 : Int32)), (0, .ref a_Z), (1, .ref a_Y)]) hx hb d_Row_copy_9 rfl hl (by decide +kernel) rfl (fun ls hl => ?_)
  obtain ⟨x1, hx1, hf⟩ := x_bd hf
  refine w_Row_copy_L10 n Y_length Y_length Y_row hx hb hml hown hts hK hA n (0 : Int32) Z_row x1 _ _ ls hx1 hP hD hS (lv_sub hl [0, 1, 2] rfl) (fun H locs ls hP hD hS hl => ?_)
  cases hf
  subst hQ
  exact W.vret hx hb hr (fun t ht _ => ⟨⟨(), rfl, trivial, by rw [ht]; exact hP, hD⟩, hS.F ht⟩) hS.2.2 d_Row_copy_36
