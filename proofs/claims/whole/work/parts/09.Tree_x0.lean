set_option maxHeartbeats 4000000 in
set_option maxRecDepth 100000 in
theorem c_Tree_size (l : Launch) (dC : Nat → ClassId) (dI : Nat → Nat → Nat) (cI cJ cB : ClassId) (a_T a_S a_R a_C a_M a_T_ruleOf a_T_sortOf a_T_startOf a_T_endOf a_T_firstPart a_T_partCount a_T_weight a_T_toldBefore a_T_told a_T_rests : Nat)  (T_size : Int32)  (n : Nat) (o : Int32) (hf : f_Tree_size n T_size = some o) : Met l y_Tree_size w_Tree_size ({ frames := 0, cells := 0, slots := 0, locals := 0 }) (va_Pc [.ref a_T] (fun U => va_P (dC, dI) vwCl [(a_T, .inr (4, [.ref a_S, .ref a_R, .ref a_C, .ref a_M, .ref a_T_ruleOf, .ref a_T_sortOf, .ref a_T_startOf, .ref a_T_endOf, .ref a_T_firstPart, .ref a_T_partCount, .ref a_T_weight, .ref a_T_toldBefore, .ref a_T_told, .ref a_T_rests, .int T_size]))] U.heap ∧ x_K (dC, dI) [(cI, .int), (cJ, .long), (cB, .byte)] U)) (QcRead o) 0 0 (fun _ => False) := by
  refine Met.ofW (cc := b_Tree_size) (maxL := 1) (ret := (some .int)) (by decide +kernel) rfl ?_
  intro p e s m args below meth c s₁ B hml hv
  obtain ⟨rfl, hP, hK⟩ := hv
  have hx := B.exec
  have hb := B.bytes
  have hr := B.returns
  have hts := atoms_spec (ws := w_Tree_size) B.pre
  have hown : s.vm.findClass "SyntaxTrees$Tree" = some m.cls := findClass_of_methodNamed B.named
  have hlocks := B.notSynchronized
  have hP : va_P (dC, dI) vwCl [(a_T, .inr (4, [.ref a_S, .ref a_R, .ref a_C, .ref a_M, .ref a_T_ruleOf, .ref a_T_sortOf, .ref a_T_startOf, .ref a_T_endOf, .ref a_T_firstPart, .ref a_T_partCount, .ref a_T_weight, .ref a_T_toldBefore, .ref a_T_told, .ref a_T_rests, .int T_size]))] s.heap := hP
  have hl := lv_entry ([.ref a_T]) (n := 1) (Nat.le_of_ble_eq_true rfl)
  rw [lg_entry_eq]
  generalize (lg_sl ([.ref a_T]) ++ List.replicate (1 - (lg_sl ([.ref a_T])).length) Slot.unset).toArray = ls at hl ⊢
  have hl : lv_has ls 1 [(0, .ref a_T)] := hl
  refine x_Q (fun Q hQ => ?_)
  unfold f_Tree_size at hf
  refine lv_aload_n hx hb d_Tree_size_0 rfl (lv_at hl 0 rfl) ?_
  refine va_get (D := (dC, dI)) (ci := 4) (v := .int T_size) (C := "SyntaxTrees$Tree") (T := F_Tree) (N := 15) hx hb hts (fun w h => List.mem_cons_of_mem _ (in_Tree w h)) hown hK.1 hP 0 rfl rfl 14 (by decide +kernel) (hts _ (List.mem_cons_of_mem _ m_161)) (fun _ h9 => h9) rfl d_Tree_size_1 ?_
  cases hf
  subst hQ
  exact W.iret hx hb hr (fun t ht _ => ⟨rfl, ht⟩) (fun _ h => absurd h List.not_mem_nil) d_Tree_size_4
set_option maxHeartbeats 4000000 in
set_option maxRecDepth 100000 in
theorem c_Tree_toldAt (l : Launch) (dC : Nat → ClassId) (dI : Nat → Nat → Nat) (cI cJ cB : ClassId) (a_T a_S a_R a_C a_M a_T_ruleOf a_T_sortOf a_T_startOf a_T_endOf a_T_firstPart a_T_partCount a_T_weight a_T_toldBefore a_T_told a_T_rests : Nat)  (T_size : Int32) (T_told : Nat → Int32) (p1 : Int32) (n : Nat) (o : Int32) (hf : f_Tree_toldAt n T_size T_told p1 = some o) : Met l y_Tree_toldAt w_Tree_toldAt ({ frames := 0, cells := 0, slots := 0, locals := 0 }) (va_Pc [.ref a_T, .int p1] (fun U => va_P (dC, dI) vwCl [(a_T, .inr (4, [.ref a_S, .ref a_R, .ref a_C, .ref a_M, .ref a_T_ruleOf, .ref a_T_sortOf, .ref a_T_startOf, .ref a_T_endOf, .ref a_T_firstPart, .ref a_T_partCount, .ref a_T_weight, .ref a_T_toldBefore, .ref a_T_told, .ref a_T_rests, .int T_size])), (a_T_told, .inl (cI, 11700, .inl T_told))] U.heap ∧ x_K (dC, dI) [(cI, .int), (cJ, .long), (cB, .byte)] U)) (QcRead o) 0 0 (fun _ => False) := by
  refine Met.ofW (cc := b_Tree_toldAt) (maxL := 2) (ret := (some .int)) (by decide +kernel) rfl ?_
  intro p e s m args below meth c s₁ B hml hv
  obtain ⟨rfl, hP, hK⟩ := hv
  have hx := B.exec
  have hb := B.bytes
  have hr := B.returns
  have hts := atoms_spec (ws := w_Tree_toldAt) B.pre
  have hown : s.vm.findClass "SyntaxTrees$Tree" = some m.cls := findClass_of_methodNamed B.named
  have hlocks := B.notSynchronized
  have hP : va_P (dC, dI) vwCl [(a_T, .inr (4, [.ref a_S, .ref a_R, .ref a_C, .ref a_M, .ref a_T_ruleOf, .ref a_T_sortOf, .ref a_T_startOf, .ref a_T_endOf, .ref a_T_firstPart, .ref a_T_partCount, .ref a_T_weight, .ref a_T_toldBefore, .ref a_T_told, .ref a_T_rests, .int T_size])), (a_T_told, .inl (cI, 11700, .inl T_told))] s.heap := hP
  have hl := lv_entry ([.ref a_T, .int p1]) (n := 2) (Nat.le_of_ble_eq_true rfl)
  rw [lg_entry_eq]
  generalize (lg_sl ([.ref a_T, .int p1]) ++ List.replicate (2 - (lg_sl ([.ref a_T, .int p1])).length) Slot.unset).toArray = ls at hl ⊢
  have hl : lv_has ls 2 [(0, .ref a_T), (1, .int p1)] := hl
  refine x_Q (fun Q hQ => ?_)
  unfold f_Tree_toldAt at hf
  refine lv_iload_n hx hb d_Tree_toldAt_0 rfl (lv_at hl 1 rfl) ?_
  refine lv_if_lt (tgt := 21) hx hb d_Tree_toldAt_1 (by decide +kernel) (fun c1 => ?_) (fun c1 => ?_)
  · have hf := x_pos c1 hf
    refine lv_iconst (v := (-1 : Int32)) hx hb d_Tree_toldAt_21 (by decide +kernel) ?_
    cases hf
    subst hQ
    exact W.iret hx hb hr (fun t ht _ => ⟨rfl, ht⟩) (fun _ h => absurd h List.not_mem_nil) d_Tree_toldAt_22
  · have hf := x_neg c1 hf
    refine lv_iload_n hx hb d_Tree_toldAt_4 rfl (lv_at hl 1 rfl) ?_
    refine lv_aload_n hx hb d_Tree_toldAt_5 rfl (lv_at hl 0 rfl) ?_
    refine va_get (D := (dC, dI)) (ci := 4) (v := .int T_size) (C := "SyntaxTrees$Tree") (T := F_Tree) (N := 15) hx hb hts (fun w h => List.mem_cons_of_mem _ (in_Tree w h)) hown hK.1 hP 0 rfl rfl 14 (by decide +kernel) (hts _ (List.mem_cons_of_mem _ m_161)) (fun _ h9 => h9) rfl d_Tree_toldAt_6 ?_
    refine lv_icmp_ge (tgt := 21) hx hb d_Tree_toldAt_9 (by decide +kernel) (fun c2 => ?_) (fun c2 => ?_)
    · have hf := x_pos c2 hf
      refine lv_iconst (v := (-1 : Int32)) hx hb d_Tree_toldAt_21 (by decide +kernel) ?_
      cases hf
      subst hQ
      exact W.iret hx hb hr (fun t ht _ => ⟨rfl, ht⟩) (fun _ h => absurd h List.not_mem_nil) d_Tree_toldAt_22
    · have hf := x_neg c2 hf
      refine lv_aload_n hx hb d_Tree_toldAt_12 rfl (lv_at hl 0 rfl) ?_
      refine va_get (D := (dC, dI)) (ci := 4) (v := .ref a_T_told) (C := "SyntaxTrees$Tree") (T := F_Tree) (N := 15) hx hb hts (fun w h => List.mem_cons_of_mem _ (in_Tree w h)) hown hK.1 hP 0 rfl rfl 12 (by decide +kernel) (hts _ (List.mem_cons_of_mem _ m_159)) (fun _ h9 => h9) rfl d_Tree_toldAt_13 ?_
      refine lv_iload_n hx hb d_Tree_toldAt_16 rfl (lv_at hl 1 rfl) ?_
      obtain ⟨h3, hf⟩ := x_gd hf
      refine va_iald hx hb hK.1 hP 1 0 rfl rfl h3 d_Tree_toldAt_17 ?_
      refine lv_goto (tgt := 22) hx hb d_Tree_toldAt_18 (by decide +kernel) ?_
      cases hf
      subst hQ
      exact W.iret hx hb hr (fun t ht _ => ⟨rfl, ht⟩) (fun _ h => absurd h List.not_mem_nil) d_Tree_toldAt_22
set_option maxHeartbeats 4000000 in
set_option maxRecDepth 100000 in
theorem c_Tree_detail (l : Launch) (dC : Nat → ClassId) (dI : Nat → Nat → Nat) (cI cJ cB : ClassId) (a_T a_S a_R a_C a_M a_T_ruleOf a_T_sortOf a_T_startOf a_T_endOf a_T_firstPart a_T_partCount a_T_weight a_T_toldBefore a_T_told a_T_rests : Nat)  (T_size : Int32) (T_ruleOf : Nat → Int32) (T_sortOf : Nat → Int32) (T_startOf : Nat → Int32) (T_endOf : Nat → Int32) (T_firstPart : Nat → Int32) (T_partCount : Nat → Int32) (p1 : Int32) (p2 : Int32) (n : Nat) (o : Int32) (hf : f_Tree_detail n T_size T_ruleOf T_sortOf T_startOf T_endOf T_firstPart T_partCount p1 p2 = some o) : Met l y_Tree_detail w_Tree_detail ({ frames := 0, cells := 0, slots := 0, locals := 0 }) (va_Pc [.ref a_T, .int p1, .int p2] (fun U => va_P (dC, dI) vwCl [(a_T, .inr (4, [.ref a_S, .ref a_R, .ref a_C, .ref a_M, .ref a_T_ruleOf, .ref a_T_sortOf, .ref a_T_startOf, .ref a_T_endOf, .ref a_T_firstPart, .ref a_T_partCount, .ref a_T_weight, .ref a_T_toldBefore, .ref a_T_told, .ref a_T_rests, .int T_size])), (a_T_ruleOf, .inl (cI, 11700, .inl T_ruleOf)), (a_T_sortOf, .inl (cI, 11700, .inl T_sortOf)), (a_T_startOf, .inl (cI, 11700, .inl T_startOf)), (a_T_endOf, .inl (cI, 11700, .inl T_endOf)), (a_T_firstPart, .inl (cI, 11700, .inl T_firstPart)), (a_T_partCount, .inl (cI, 11700, .inl T_partCount))] U.heap ∧ x_K (dC, dI) [(cI, .int), (cJ, .long), (cB, .byte)] U)) (QcRead o) 0 0 (fun _ => False) := by
  refine Met.ofW (cc := b_Tree_detail) (maxL := 3) (ret := (some .int)) (by decide +kernel) rfl ?_
  intro p e s m args below meth c s₁ B hml hv
  obtain ⟨rfl, hP, hK⟩ := hv
  have hx := B.exec
  have hb := B.bytes
  have hr := B.returns
  have hts := atoms_spec (ws := w_Tree_detail) B.pre
  have hown : s.vm.findClass "SyntaxTrees$Tree" = some m.cls := findClass_of_methodNamed B.named
  have hlocks := B.notSynchronized
  have hP : va_P (dC, dI) vwCl [(a_T, .inr (4, [.ref a_S, .ref a_R, .ref a_C, .ref a_M, .ref a_T_ruleOf, .ref a_T_sortOf, .ref a_T_startOf, .ref a_T_endOf, .ref a_T_firstPart, .ref a_T_partCount, .ref a_T_weight, .ref a_T_toldBefore, .ref a_T_told, .ref a_T_rests, .int T_size])), (a_T_ruleOf, .inl (cI, 11700, .inl T_ruleOf)), (a_T_sortOf, .inl (cI, 11700, .inl T_sortOf)), (a_T_startOf, .inl (cI, 11700, .inl T_startOf)), (a_T_endOf, .inl (cI, 11700, .inl T_endOf)), (a_T_firstPart, .inl (cI, 11700, .inl T_firstPart)), (a_T_partCount, .inl (cI, 11700, .inl T_partCount))] s.heap := hP
  have hl := lv_entry ([.ref a_T, .int p1, .int p2]) (n := 3) (Nat.le_of_ble_eq_true rfl)
  rw [lg_entry_eq]
  generalize (lg_sl ([.ref a_T, .int p1, .int p2]) ++ List.replicate (3 - (lg_sl ([.ref a_T, .int p1, .int p2])).length) Slot.unset).toArray = ls at hl ⊢
  have hl : lv_has ls 3 [(0, .ref a_T), (1, .int p1), (2, .int p2)] := hl
  refine x_Q (fun Q hQ => ?_)
  unfold f_Tree_detail at hf
  refine lv_iload_n hx hb d_Tree_detail_0 rfl (lv_at hl 1 rfl) ?_
  refine lv_if_lt (tgt := 12) hx hb d_Tree_detail_1 (by decide +kernel) (fun c1 => ?_) (fun c1 => ?_)
  · have hf := x_pos c1 hf
    refine lv_iconst (v := (-1 : Int32)) hx hb d_Tree_detail_12 (by decide +kernel) ?_
    cases hf
    subst hQ
    exact W.iret hx hb hr (fun t ht _ => ⟨rfl, ht⟩) (fun _ h => absurd h List.not_mem_nil) d_Tree_detail_13
  · have hf := x_neg c1 hf
    refine lv_iload_n hx hb d_Tree_detail_4 rfl (lv_at hl 1 rfl) ?_
    refine lv_aload_n hx hb d_Tree_detail_5 rfl (lv_at hl 0 rfl) ?_
    refine va_get (D := (dC, dI)) (ci := 4) (v := .int T_size) (C := "SyntaxTrees$Tree") (T := F_Tree) (N := 15) hx hb hts (fun w h => List.mem_cons_of_mem _ (in_Tree w h)) hown hK.1 hP 0 rfl rfl 14 (by decide +kernel) (hts _ (List.mem_cons_of_mem _ m_161)) (fun _ h9 => h9) rfl d_Tree_detail_6 ?_
    refine lv_icmp_lt (tgt := 14) hx hb d_Tree_detail_9 (by decide +kernel) (fun c2 => ?_) (fun c2 => ?_)
    · have hf := x_pos c2 hf
      refine lv_iload_n hx hb d_Tree_detail_14 rfl (lv_at hl 2 rfl) ?_
      by_cases c3 : p2 = 0
      · have hf := x_pos c3 hf
        refine lv_tableIn (tgt := 52) hx hb d_Tree_detail_15 (by rw [c3]; decide) (by rw [c3]; decide) (by rw [c3]; rfl) (by decide +kernel) ?_
        refine lv_aload_n hx hb d_Tree_detail_52 rfl (lv_at hl 0 rfl) ?_
        refine va_get (D := (dC, dI)) (ci := 4) (v := .ref a_T_ruleOf) (C := "SyntaxTrees$Tree") (T := F_Tree) (N := 15) hx hb hts (fun w h => List.mem_cons_of_mem _ (in_Tree w h)) hown hK.1 hP 0 rfl rfl 4 (by decide +kernel) (hts _ (List.mem_cons_of_mem _ m_151)) (fun _ h9 => h9) rfl d_Tree_detail_53 ?_
        refine lv_iload_n hx hb d_Tree_detail_56 rfl (lv_at hl 1 rfl) ?_
        obtain ⟨h4, hf⟩ := x_gd hf
        refine va_iald hx hb hK.1 hP 1 0 rfl rfl h4 d_Tree_detail_57 ?_
        cases hf
        subst hQ
        exact W.iret hx hb hr (fun t ht _ => ⟨rfl, ht⟩) (fun _ h => absurd h List.not_mem_nil) d_Tree_detail_58
      · have hf := x_neg c3 hf
        by_cases c5 : p2 = 1
        · have hf := x_pos c5 hf
          refine lv_tableIn (tgt := 59) hx hb d_Tree_detail_15 (by rw [c5]; decide) (by rw [c5]; decide) (by rw [c5]; rfl) (by decide +kernel) ?_
          refine lv_aload_n hx hb d_Tree_detail_59 rfl (lv_at hl 0 rfl) ?_
          refine va_get (D := (dC, dI)) (ci := 4) (v := .ref a_T_sortOf) (C := "SyntaxTrees$Tree") (T := F_Tree) (N := 15) hx hb hts (fun w h => List.mem_cons_of_mem _ (in_Tree w h)) hown hK.1 hP 0 rfl rfl 5 (by decide +kernel) (hts _ (List.mem_cons_of_mem _ m_152)) (fun _ h9 => h9) rfl d_Tree_detail_60 ?_
          refine lv_iload_n hx hb d_Tree_detail_63 rfl (lv_at hl 1 rfl) ?_
          obtain ⟨h6, hf⟩ := x_gd hf
          refine va_iald hx hb hK.1 hP 2 0 rfl rfl h6 d_Tree_detail_64 ?_
          cases hf
          subst hQ
          exact W.iret hx hb hr (fun t ht _ => ⟨rfl, ht⟩) (fun _ h => absurd h List.not_mem_nil) d_Tree_detail_65
        · have hf := x_neg c5 hf
          by_cases c7 : p2 = 2
          · have hf := x_pos c7 hf
            refine lv_tableIn (tgt := 66) hx hb d_Tree_detail_15 (by rw [c7]; decide) (by rw [c7]; decide) (by rw [c7]; rfl) (by decide +kernel) ?_
            refine lv_aload_n hx hb d_Tree_detail_66 rfl (lv_at hl 0 rfl) ?_
            refine va_get (D := (dC, dI)) (ci := 4) (v := .ref a_T_startOf) (C := "SyntaxTrees$Tree") (T := F_Tree) (N := 15) hx hb hts (fun w h => List.mem_cons_of_mem _ (in_Tree w h)) hown hK.1 hP 0 rfl rfl 6 (by decide +kernel) (hts _ (List.mem_cons_of_mem _ m_153)) (fun _ h9 => h9) rfl d_Tree_detail_67 ?_
            refine lv_iload_n hx hb d_Tree_detail_70 rfl (lv_at hl 1 rfl) ?_
            obtain ⟨h8, hf⟩ := x_gd hf
            refine va_iald hx hb hK.1 hP 3 0 rfl rfl h8 d_Tree_detail_71 ?_
            cases hf
            subst hQ
            exact W.iret hx hb hr (fun t ht _ => ⟨rfl, ht⟩) (fun _ h => absurd h List.not_mem_nil) d_Tree_detail_72
          · have hf := x_neg c7 hf
            by_cases c9 : p2 = 3
            · have hf := x_pos c9 hf
              refine lv_tableIn (tgt := 73) hx hb d_Tree_detail_15 (by rw [c9]; decide) (by rw [c9]; decide) (by rw [c9]; rfl) (by decide +kernel) ?_
              refine lv_aload_n hx hb d_Tree_detail_73 rfl (lv_at hl 0 rfl) ?_
              refine va_get (D := (dC, dI)) (ci := 4) (v := .ref a_T_endOf) (C := "SyntaxTrees$Tree") (T := F_Tree) (N := 15) hx hb hts (fun w h => List.mem_cons_of_mem _ (in_Tree w h)) hown hK.1 hP 0 rfl rfl 7 (by decide +kernel) (hts _ (List.mem_cons_of_mem _ m_154)) (fun _ h9 => h9) rfl d_Tree_detail_74 ?_
              refine lv_iload_n hx hb d_Tree_detail_77 rfl (lv_at hl 1 rfl) ?_
              obtain ⟨h10, hf⟩ := x_gd hf
              refine va_iald hx hb hK.1 hP 4 0 rfl rfl h10 d_Tree_detail_78 ?_
              cases hf
              subst hQ
              exact W.iret hx hb hr (fun t ht _ => ⟨rfl, ht⟩) (fun _ h => absurd h List.not_mem_nil) d_Tree_detail_79
            · have hf := x_neg c9 hf
              by_cases c11 : p2 = 4
              · have hf := x_pos c11 hf
                refine lv_tableIn (tgt := 80) hx hb d_Tree_detail_15 (by rw [c11]; decide) (by rw [c11]; decide) (by rw [c11]; rfl) (by decide +kernel) ?_
                refine lv_aload_n hx hb d_Tree_detail_80 rfl (lv_at hl 0 rfl) ?_
                refine va_get (D := (dC, dI)) (ci := 4) (v := .ref a_T_firstPart) (C := "SyntaxTrees$Tree") (T := F_Tree) (N := 15) hx hb hts (fun w h => List.mem_cons_of_mem _ (in_Tree w h)) hown hK.1 hP 0 rfl rfl 8 (by decide +kernel) (hts _ (List.mem_cons_of_mem _ m_155)) (fun _ h9 => h9) rfl d_Tree_detail_81 ?_
                refine lv_iload_n hx hb d_Tree_detail_84 rfl (lv_at hl 1 rfl) ?_
                obtain ⟨h12, hf⟩ := x_gd hf
                refine va_iald hx hb hK.1 hP 5 0 rfl rfl h12 d_Tree_detail_85 ?_
                cases hf
                subst hQ
                exact W.iret hx hb hr (fun t ht _ => ⟨rfl, ht⟩) (fun _ h => absurd h List.not_mem_nil) d_Tree_detail_86
              · have hf := x_neg c11 hf
                by_cases c13 : p2 = 5
                · have hf := x_pos c13 hf
                  refine lv_tableIn (tgt := 87) hx hb d_Tree_detail_15 (by rw [c13]; decide) (by rw [c13]; decide) (by rw [c13]; rfl) (by decide +kernel) ?_
                  refine lv_aload_n hx hb d_Tree_detail_87 rfl (lv_at hl 0 rfl) ?_
                  refine va_get (D := (dC, dI)) (ci := 4) (v := .ref a_T_partCount) (C := "SyntaxTrees$Tree") (T := F_Tree) (N := 15) hx hb hts (fun w h => List.mem_cons_of_mem _ (in_Tree w h)) hown hK.1 hP 0 rfl rfl 9 (by decide +kernel) (hts _ (List.mem_cons_of_mem _ m_156)) (fun _ h9 => h9) rfl d_Tree_detail_88 ?_
                  refine lv_iload_n hx hb d_Tree_detail_91 rfl (lv_at hl 1 rfl) ?_
                  obtain ⟨h14, hf⟩ := x_gd hf
                  refine va_iald hx hb hK.1 hP 6 0 rfl rfl h14 d_Tree_detail_92 ?_
                  cases hf
                  subst hQ
                  exact W.iret hx hb hr (fun t ht _ => ⟨rfl, ht⟩) (fun _ h => absurd h List.not_mem_nil) d_Tree_detail_93
                · have hf := x_neg c13 hf
                  refine lv_tableOut (tgt := 94) hx hb d_Tree_detail_15 (by have := lv_neT c3 (a := 0) (by decide +kernel); have := lv_neT c5 (a := 1) (by decide +kernel); have := lv_neT c7 (a := 2) (by decide +kernel); have := lv_neT c9 (a := 3) (by decide +kernel); have := lv_neT c11 (a := 4) (by decide +kernel); have := lv_neT c13 (a := 5) (by decide +kernel); omega) (by decide +kernel) ?_
                  refine lv_iconst (v := (-1 : Int32)) hx hb d_Tree_detail_94 (by decide +kernel) ?_
                  cases hf
                  subst hQ
                  exact W.iret hx hb hr (fun t ht _ => ⟨rfl, ht⟩) (fun _ h => absurd h List.not_mem_nil) d_Tree_detail_95
    · have hf := x_neg c2 hf
      refine lv_iconst (v := (-1 : Int32)) hx hb d_Tree_detail_12 (by decide +kernel) ?_
      cases hf
      subst hQ
      exact W.iret hx hb hr (fun t ht _ => ⟨rfl, ht⟩) (fun _ h => absurd h List.not_mem_nil) d_Tree_detail_13
set_option maxHeartbeats 4000000 in
set_option maxRecDepth 100000 in
theorem c_Tree_append (l : Launch) (dC : Nat → ClassId) (dI : Nat → Nat → Nat) (cI cJ cB : ClassId) (a_T a_S a_R a_C a_M a_T_ruleOf a_T_sortOf a_T_startOf a_T_endOf a_T_firstPart a_T_partCount a_T_weight a_T_toldBefore a_T_told a_T_rests : Nat)  (T_size : Int32) (T_ruleOf : Nat → Int32) (T_sortOf : Nat → Int32) (T_startOf : Nat → Int32) (T_endOf : Nat → Int32) (T_firstPart : Nat → Int32) (T_partCount : Nat → Int32) (p1 : Int32) (p2 : Int32) (p3 : Int32) (sz : Nat) (n : Nat) (o : Int32 × Int32 × (Nat → Int32) × (Nat → Int32) × (Nat → Int32) × (Nat → Int32) × (Nat → Int32) × (Nat → Int32)) (hf : f_Tree_append n T_size T_ruleOf T_sortOf T_startOf T_endOf T_firstPart T_partCount p1 p2 p3 = some o) : Met l y_Tree_append w_Tree_append ({ frames := 0, cells := 0, slots := 0, locals := 0 }) (va_Pc [.ref a_T, .int p1, .int p2, .int p3] (fun U => U.heap.size = sz ∧ va_P (dC, dI) vwCl [(a_T, .inr (4, [.ref a_S, .ref a_R, .ref a_C, .ref a_M, .ref a_T_ruleOf, .ref a_T_sortOf, .ref a_T_startOf, .ref a_T_endOf, .ref a_T_firstPart, .ref a_T_partCount, .ref a_T_weight, .ref a_T_toldBefore, .ref a_T_told, .ref a_T_rests, .int T_size])), (a_T_ruleOf, .inl (cI, 11700, .inl T_ruleOf)), (a_T_sortOf, .inl (cI, 11700, .inl T_sortOf)), (a_T_startOf, .inl (cI, 11700, .inl T_startOf)), (a_T_endOf, .inl (cI, 11700, .inl T_endOf)), (a_T_firstPart, .inl (cI, 11700, .inl T_firstPart)), (a_T_partCount, .inl (cI, 11700, .inl T_partCount))] U.heap ∧ x_K (dC, dI) [(cI, .int), (cJ, .long), (cB, .byte)] U ∧ va_D (fun _ => True) [(a_T, .inr (4, [.ref a_S, .ref a_R, .ref a_C, .ref a_M, .ref a_T_ruleOf, .ref a_T_sortOf, .ref a_T_startOf, .ref a_T_endOf, .ref a_T_firstPart, .ref a_T_partCount, .ref a_T_weight, .ref a_T_toldBefore, .ref a_T_told, .ref a_T_rests, .int T_size])), (a_T_ruleOf, .inl (cI, 11700, .inl T_ruleOf)), (a_T_sortOf, .inl (cI, 11700, .inl T_sortOf)), (a_T_startOf, .inl (cI, 11700, .inl T_startOf)), (a_T_endOf, .inl (cI, 11700, .inl T_endOf)), (a_T_firstPart, .inl (cI, 11700, .inl T_firstPart)), (a_T_partCount, .inl (cI, 11700, .inl T_partCount))])) (va_Qi (fun r (_ : Unit) => r = o.1) (fun _ t => va_P (dC, dI) vwCl [(a_T, .inr (4, [.ref a_S, .ref a_R, .ref a_C, .ref a_M, .ref a_T_ruleOf, .ref a_T_sortOf, .ref a_T_startOf, .ref a_T_endOf, .ref a_T_firstPart, .ref a_T_partCount, .ref a_T_weight, .ref a_T_toldBefore, .ref a_T_told, .ref a_T_rests, .int o.2.1])), (a_T_ruleOf, .inl (cI, 11700, .inl o.2.2.1)), (a_T_sortOf, .inl (cI, 11700, .inl o.2.2.2.1)), (a_T_startOf, .inl (cI, 11700, .inl o.2.2.2.2.1)), (a_T_endOf, .inl (cI, 11700, .inl o.2.2.2.2.2.1)), (a_T_firstPart, .inl (cI, 11700, .inl o.2.2.2.2.2.2.1)), (a_T_partCount, .inl (cI, 11700, .inl o.2.2.2.2.2.2.2))] t.heap ∧ va_D (va_A [(a_T, .inr (4, [.ref a_S, .ref a_R, .ref a_C, .ref a_M, .ref a_T_ruleOf, .ref a_T_sortOf, .ref a_T_startOf, .ref a_T_endOf, .ref a_T_firstPart, .ref a_T_partCount, .ref a_T_weight, .ref a_T_toldBefore, .ref a_T_told, .ref a_T_rests, .int T_size])), (a_T_ruleOf, .inl (cI, 11700, .inl T_ruleOf)), (a_T_sortOf, .inl (cI, 11700, .inl T_sortOf)), (a_T_startOf, .inl (cI, 11700, .inl T_startOf)), (a_T_endOf, .inl (cI, 11700, .inl T_endOf)), (a_T_firstPart, .inl (cI, 11700, .inl T_firstPart)), (a_T_partCount, .inl (cI, 11700, .inl T_partCount))] sz) [(a_T, .inr (4, [.ref a_S, .ref a_R, .ref a_C, .ref a_M, .ref a_T_ruleOf, .ref a_T_sortOf, .ref a_T_startOf, .ref a_T_endOf, .ref a_T_firstPart, .ref a_T_partCount, .ref a_T_weight, .ref a_T_toldBefore, .ref a_T_told, .ref a_T_rests, .int o.2.1])), (a_T_ruleOf, .inl (cI, 11700, .inl o.2.2.1)), (a_T_sortOf, .inl (cI, 11700, .inl o.2.2.2.1)), (a_T_startOf, .inl (cI, 11700, .inl o.2.2.2.2.1)), (a_T_endOf, .inl (cI, 11700, .inl o.2.2.2.2.2.1)), (a_T_firstPart, .inl (cI, 11700, .inl o.2.2.2.2.2.2.1)), (a_T_partCount, .inl (cI, 11700, .inl o.2.2.2.2.2.2.2))]) (va_A [(a_T, .inr (4, [.ref a_S, .ref a_R, .ref a_C, .ref a_M, .ref a_T_ruleOf, .ref a_T_sortOf, .ref a_T_startOf, .ref a_T_endOf, .ref a_T_firstPart, .ref a_T_partCount, .ref a_T_weight, .ref a_T_toldBefore, .ref a_T_told, .ref a_T_rests, .int T_size])), (a_T_ruleOf, .inl (cI, 11700, .inl T_ruleOf)), (a_T_sortOf, .inl (cI, 11700, .inl T_sortOf)), (a_T_startOf, .inl (cI, 11700, .inl T_startOf)), (a_T_endOf, .inl (cI, 11700, .inl T_endOf)), (a_T_firstPart, .inl (cI, 11700, .inl T_firstPart)), (a_T_partCount, .inl (cI, 11700, .inl T_partCount))] sz)) 0 0 (va_A [(a_T, .inr (4, [.ref a_S, .ref a_R, .ref a_C, .ref a_M, .ref a_T_ruleOf, .ref a_T_sortOf, .ref a_T_startOf, .ref a_T_endOf, .ref a_T_firstPart, .ref a_T_partCount, .ref a_T_weight, .ref a_T_toldBefore, .ref a_T_told, .ref a_T_rests, .int T_size])), (a_T_ruleOf, .inl (cI, 11700, .inl T_ruleOf)), (a_T_sortOf, .inl (cI, 11700, .inl T_sortOf)), (a_T_startOf, .inl (cI, 11700, .inl T_startOf)), (a_T_endOf, .inl (cI, 11700, .inl T_endOf)), (a_T_firstPart, .inl (cI, 11700, .inl T_firstPart)), (a_T_partCount, .inl (cI, 11700, .inl T_partCount))] sz) := by
  refine Met.ofW (cc := b_Tree_append) (maxL := 4) (ret := (some .boolean)) (by decide +kernel) rfl ?_
  intro p e s m args below meth c s₁ B hml hv
  obtain ⟨rfl, hsz, hP, hK, hD0⟩ := hv
  have hx := B.exec
  have hb := B.bytes
  have hr := B.returns
  have hts := atoms_spec (ws := w_Tree_append) B.pre
  have hown : s.vm.findClass "SyntaxTrees$Tree" = some m.cls := findClass_of_methodNamed B.named
  have hlocks := B.notSynchronized
  subst hsz
  have hD := hD0.self (sz := s.heap.size)
  generalize hAe : va_A [(a_T, .inr (4, [.ref a_S, .ref a_R, .ref a_C, .ref a_M, .ref a_T_ruleOf, .ref a_T_sortOf, .ref a_T_startOf, .ref a_T_endOf, .ref a_T_firstPart, .ref a_T_partCount, .ref a_T_weight, .ref a_T_toldBefore, .ref a_T_told, .ref a_T_rests, .int T_size])), (a_T_ruleOf, .inl (cI, 11700, .inl T_ruleOf)), (a_T_sortOf, .inl (cI, 11700, .inl T_sortOf)), (a_T_startOf, .inl (cI, 11700, .inl T_startOf)), (a_T_endOf, .inl (cI, 11700, .inl T_endOf)), (a_T_firstPart, .inl (cI, 11700, .inl T_firstPart)), (a_T_partCount, .inl (cI, 11700, .inl T_partCount))] s.heap.size = A at hD ⊢
  have hA : ∀ q : Nat, s.heap.size ≤ q → A q := fun q h => by rw [← hAe]; exact Or.inr h
  have hS : va_S A s.heap s.heap [] := va_S.rf
  have hP : va_P (dC, dI) vwCl [(a_T, .inr (4, [.ref a_S, .ref a_R, .ref a_C, .ref a_M, .ref a_T_ruleOf, .ref a_T_sortOf, .ref a_T_startOf, .ref a_T_endOf, .ref a_T_firstPart, .ref a_T_partCount, .ref a_T_weight, .ref a_T_toldBefore, .ref a_T_told, .ref a_T_rests, .int T_size])), (a_T_ruleOf, .inl (cI, 11700, .inl T_ruleOf)), (a_T_sortOf, .inl (cI, 11700, .inl T_sortOf)), (a_T_startOf, .inl (cI, 11700, .inl T_startOf)), (a_T_endOf, .inl (cI, 11700, .inl T_endOf)), (a_T_firstPart, .inl (cI, 11700, .inl T_firstPart)), (a_T_partCount, .inl (cI, 11700, .inl T_partCount))] s.heap := hP
  have hl := lv_entry ([.ref a_T, .int p1, .int p2, .int p3]) (n := 4) (Nat.le_of_ble_eq_true rfl)
  rw [lg_entry_eq]
  generalize (lg_sl ([.ref a_T, .int p1, .int p2, .int p3]) ++ List.replicate (4 - (lg_sl ([.ref a_T, .int p1, .int p2, .int p3])).length) Slot.unset).toArray = ls at hl ⊢
  have hl : lv_has ls 4 [(0, .ref a_T), (1, .int p1), (2, .int p2), (3, .int p3)] := hl
  refine x_Q (fun Q hQ => ?_)
  unfold f_Tree_append at hf
  refine lv_aload_n hx hb d_Tree_append_0 rfl (lv_at hl 0 rfl) ?_
  refine va_get (D := (dC, dI)) (ci := 4) (v := .int T_size) (C := "SyntaxTrees$Tree") (T := F_Tree) (N := 15) hx hb hts (fun w h => List.mem_cons_of_mem _ (in_Tree w h)) hown hK.1 hP 0 rfl rfl 14 (by decide +kernel) (hts _ (List.mem_cons_of_mem _ m_161)) (fun _ h9 => h9) rfl d_Tree_append_1 ?_
  refine lv_sipush (v := (11700 : Int32)) hx hb d_Tree_append_4 (by decide +kernel) ?_
  refine lv_icmp_lt (tgt := 12) hx hb d_Tree_append_7 (by decide +kernel) (fun c1 => ?_) (fun c1 => ?_)
  · have hf := x_pos c1 hf
    refine lv_aload_n hx hb d_Tree_append_12 rfl (lv_at hl 0 rfl) ?_
    refine va_get (D := (dC, dI)) (ci := 4) (v := .ref a_T_ruleOf) (C := "SyntaxTrees$Tree") (T := F_Tree) (N := 15) hx hb hts (fun w h => List.mem_cons_of_mem _ (in_Tree w h)) hown hK.1 hP 0 rfl rfl 4 (by decide +kernel) (hts _ (List.mem_cons_of_mem _ m_151)) (fun _ h9 => h9) rfl d_Tree_append_13 ?_
    refine lv_aload_n hx hb d_Tree_append_16 rfl (lv_at hl 0 rfl) ?_
    refine va_get (D := (dC, dI)) (ci := 4) (v := .int T_size) (C := "SyntaxTrees$Tree") (T := F_Tree) (N := 15) hx hb hts (fun w h => List.mem_cons_of_mem _ (in_Tree w h)) hown hK.1 hP 0 rfl rfl 14 (by decide +kernel) (hts _ (List.mem_cons_of_mem _ m_161)) (fun _ h9 => h9) rfl d_Tree_append_17 ?_
    refine lv_iconst (v := (-1 : Int32)) hx hb d_Tree_append_20 (by decide +kernel) ?_
    obtain ⟨h2, hf⟩ := x_gd hf
    refine x_iast (w1 := [(a_T, .inr (4, [.ref a_S, .ref a_R, .ref a_C, .ref a_M, .ref a_T_ruleOf, .ref a_T_sortOf, .ref a_T_startOf, .ref a_T_endOf, .ref a_T_firstPart, .ref a_T_partCount, .ref a_T_weight, .ref a_T_toldBefore, .ref a_T_told, .ref a_T_rests, .int T_size])), (a_T_ruleOf, .inl (cI, 11700, .inl (upd T_ruleOf T_size.toNatClampNeg (-1 : Int32)))), (a_T_sortOf, .inl (cI, 11700, .inl T_sortOf)), (a_T_startOf, .inl (cI, 11700, .inl T_startOf)), (a_T_endOf, .inl (cI, 11700, .inl T_endOf)), (a_T_firstPart, .inl (cI, 11700, .inl T_firstPart)), (a_T_partCount, .inl (cI, 11700, .inl T_partCount))]) hx hb hK.1 hP hD hS 1 0 rfl rfl h2 d_Tree_append_21 rfl (fun H locs hP hD hS => ?_)
    refine lv_aload_n hx hb d_Tree_append_22 rfl (lv_at hl 0 rfl) ?_
    refine va_get (D := (dC, dI)) (ci := 4) (v := .ref a_T_sortOf) (C := "SyntaxTrees$Tree") (T := F_Tree) (N := 15) hx hb hts (fun w h => List.mem_cons_of_mem _ (in_Tree w h)) hown hK.1 hP 0 rfl rfl 5 (by decide +kernel) (hts _ (List.mem_cons_of_mem _ m_152)) (fun _ h9 => h9) rfl d_Tree_append_23 ?_
    refine lv_aload_n hx hb d_Tree_append_26 rfl (lv_at hl 0 rfl) ?_
    refine va_get (D := (dC, dI)) (ci := 4) (v := .int T_size) (C := "SyntaxTrees$Tree") (T := F_Tree) (N := 15) hx hb hts (fun w h => List.mem_cons_of_mem _ (in_Tree w h)) hown hK.1 hP 0 rfl rfl 14 (by decide +kernel) (hts _ (List.mem_cons_of_mem _ m_161)) (fun _ h9 => h9) rfl d_Tree_append_27 ?_
    refine lv_iload_n hx hb d_Tree_append_30 rfl (lv_at hl 1 rfl) ?_
    obtain ⟨h3, hf⟩ := x_gd hf
    refine x_iast (w1 := [(a_T, .inr (4, [.ref a_S, .ref a_R, .ref a_C, .ref a_M, .ref a_T_ruleOf, .ref a_T_sortOf, .ref a_T_startOf, .ref a_T_endOf, .ref a_T_firstPart, .ref a_T_partCount, .ref a_T_weight, .ref a_T_toldBefore, .ref a_T_told, .ref a_T_rests, .int T_size])), (a_T_ruleOf, .inl (cI, 11700, .inl (upd T_ruleOf T_size.toNatClampNeg (-1 : Int32)))), (a_T_sortOf, .inl (cI, 11700, .inl (upd T_sortOf T_size.toNatClampNeg p1))), (a_T_startOf, .inl (cI, 11700, .inl T_startOf)), (a_T_endOf, .inl (cI, 11700, .inl T_endOf)), (a_T_firstPart, .inl (cI, 11700, .inl T_firstPart)), (a_T_partCount, .inl (cI, 11700, .inl T_partCount))]) hx hb hK.1 hP hD hS 2 0 rfl rfl h3 d_Tree_append_31 rfl (fun H locs hP hD hS => ?_)
    refine lv_aload_n hx hb d_Tree_append_32 rfl (lv_at hl 0 rfl) ?_
    refine va_get (D := (dC, dI)) (ci := 4) (v := .ref a_T_startOf) (C := "SyntaxTrees$Tree") (T := F_Tree) (N := 15) hx hb hts (fun w h => List.mem_cons_of_mem _ (in_Tree w h)) hown hK.1 hP 0 rfl rfl 6 (by decide +kernel) (hts _ (List.mem_cons_of_mem _ m_153)) (fun _ h9 => h9) rfl d_Tree_append_33 ?_
    refine lv_aload_n hx hb d_Tree_append_36 rfl (lv_at hl 0 rfl) ?_
    refine va_get (D := (dC, dI)) (ci := 4) (v := .int T_size) (C := "SyntaxTrees$Tree") (T := F_Tree) (N := 15) hx hb hts (fun w h => List.mem_cons_of_mem _ (in_Tree w h)) hown hK.1 hP 0 rfl rfl 14 (by decide +kernel) (hts _ (List.mem_cons_of_mem _ m_161)) (fun _ h9 => h9) rfl d_Tree_append_37 ?_
    refine lv_iload_n hx hb d_Tree_append_40 rfl (lv_at hl 2 rfl) ?_
    obtain ⟨h4, hf⟩ := x_gd hf
    refine x_iast (w1 := [(a_T, .inr (4, [.ref a_S, .ref a_R, .ref a_C, .ref a_M, .ref a_T_ruleOf, .ref a_T_sortOf, .ref a_T_startOf, .ref a_T_endOf, .ref a_T_firstPart, .ref a_T_partCount, .ref a_T_weight, .ref a_T_toldBefore, .ref a_T_told, .ref a_T_rests, .int T_size])), (a_T_ruleOf, .inl (cI, 11700, .inl (upd T_ruleOf T_size.toNatClampNeg (-1 : Int32)))), (a_T_sortOf, .inl (cI, 11700, .inl (upd T_sortOf T_size.toNatClampNeg p1))), (a_T_startOf, .inl (cI, 11700, .inl (upd T_startOf T_size.toNatClampNeg p2))), (a_T_endOf, .inl (cI, 11700, .inl T_endOf)), (a_T_firstPart, .inl (cI, 11700, .inl T_firstPart)), (a_T_partCount, .inl (cI, 11700, .inl T_partCount))]) hx hb hK.1 hP hD hS 3 0 rfl rfl h4 d_Tree_append_41 rfl (fun H locs hP hD hS => ?_)
    refine lv_aload_n hx hb d_Tree_append_42 rfl (lv_at hl 0 rfl) ?_
    refine va_get (D := (dC, dI)) (ci := 4) (v := .ref a_T_endOf) (C := "SyntaxTrees$Tree") (T := F_Tree) (N := 15) hx hb hts (fun w h => List.mem_cons_of_mem _ (in_Tree w h)) hown hK.1 hP 0 rfl rfl 7 (by decide +kernel) (hts _ (List.mem_cons_of_mem _ m_154)) (fun _ h9 => h9) rfl d_Tree_append_43 ?_
    refine lv_aload_n hx hb d_Tree_append_46 rfl (lv_at hl 0 rfl) ?_
    refine va_get (D := (dC, dI)) (ci := 4) (v := .int T_size) (C := "SyntaxTrees$Tree") (T := F_Tree) (N := 15) hx hb hts (fun w h => List.mem_cons_of_mem _ (in_Tree w h)) hown hK.1 hP 0 rfl rfl 14 (by decide +kernel) (hts _ (List.mem_cons_of_mem _ m_161)) (fun _ h9 => h9) rfl d_Tree_append_47 ?_
    refine lv_iload_n hx hb d_Tree_append_50 rfl (lv_at hl 3 rfl) ?_
    obtain ⟨h5, hf⟩ := x_gd hf
    refine x_iast (w1 := [(a_T, .inr (4, [.ref a_S, .ref a_R, .ref a_C, .ref a_M, .ref a_T_ruleOf, .ref a_T_sortOf, .ref a_T_startOf, .ref a_T_endOf, .ref a_T_firstPart, .ref a_T_partCount, .ref a_T_weight, .ref a_T_toldBefore, .ref a_T_told, .ref a_T_rests, .int T_size])), (a_T_ruleOf, .inl (cI, 11700, .inl (upd T_ruleOf T_size.toNatClampNeg (-1 : Int32)))), (a_T_sortOf, .inl (cI, 11700, .inl (upd T_sortOf T_size.toNatClampNeg p1))), (a_T_startOf, .inl (cI, 11700, .inl (upd T_startOf T_size.toNatClampNeg p2))), (a_T_endOf, .inl (cI, 11700, .inl (upd T_endOf T_size.toNatClampNeg p3))), (a_T_firstPart, .inl (cI, 11700, .inl T_firstPart)), (a_T_partCount, .inl (cI, 11700, .inl T_partCount))]) hx hb hK.1 hP hD hS 4 0 rfl rfl h5 d_Tree_append_51 rfl (fun H locs hP hD hS => ?_)
    refine lv_aload_n hx hb d_Tree_append_52 rfl (lv_at hl 0 rfl) ?_
    refine va_get (D := (dC, dI)) (ci := 4) (v := .ref a_T_firstPart) (C := "SyntaxTrees$Tree") (T := F_Tree) (N := 15) hx hb hts (fun w h => List.mem_cons_of_mem _ (in_Tree w h)) hown hK.1 hP 0 rfl rfl 8 (by decide +kernel) (hts _ (List.mem_cons_of_mem _ m_155)) (fun _ h9 => h9) rfl d_Tree_append_53 ?_
    refine lv_aload_n hx hb d_Tree_append_56 rfl (lv_at hl 0 rfl) ?_
    refine va_get (D := (dC, dI)) (ci := 4) (v := .int T_size) (C := "SyntaxTrees$Tree") (T := F_Tree) (N := 15) hx hb hts (fun w h => List.mem_cons_of_mem _ (in_Tree w h)) hown hK.1 hP 0 rfl rfl 14 (by decide +kernel) (hts _ (List.mem_cons_of_mem _ m_161)) (fun _ h9 => h9) rfl d_Tree_append_57 ?_
    refine lv_iconst (v := (-1 : Int32)) hx hb d_Tree_append_60 (by decide +kernel) ?_
    obtain ⟨h6, hf⟩ := x_gd hf
    refine x_iast (w1 := [(a_T, .inr (4, [.ref a_S, .ref a_R, .ref a_C, .ref a_M, .ref a_T_ruleOf, .ref a_T_sortOf, .ref a_T_startOf, .ref a_T_endOf, .ref a_T_firstPart, .ref a_T_partCount, .ref a_T_weight, .ref a_T_toldBefore, .ref a_T_told, .ref a_T_rests, .int T_size])), (a_T_ruleOf, .inl (cI, 11700, .inl (upd T_ruleOf T_size.toNatClampNeg (-1 : Int32)))), (a_T_sortOf, .inl (cI, 11700, .inl (upd T_sortOf T_size.toNatClampNeg p1))), (a_T_startOf, .inl (cI, 11700, .inl (upd T_startOf T_size.toNatClampNeg p2))), (a_T_endOf, .inl (cI, 11700, .inl (upd T_endOf T_size.toNatClampNeg p3))), (a_T_firstPart, .inl (cI, 11700, .inl (upd T_firstPart T_size.toNatClampNeg (-1 : Int32)))), (a_T_partCount, .inl (cI, 11700, .inl T_partCount))]) hx hb hK.1 hP hD hS 5 0 rfl rfl h6 d_Tree_append_61 rfl (fun H locs hP hD hS => ?_)
    refine lv_aload_n hx hb d_Tree_append_62 rfl (lv_at hl 0 rfl) ?_
    refine va_get (D := (dC, dI)) (ci := 4) (v := .ref a_T_partCount) (C := "SyntaxTrees$Tree") (T := F_Tree) (N := 15) hx hb hts (fun w h => List.mem_cons_of_mem _ (in_Tree w h)) hown hK.1 hP 0 rfl rfl 9 (by decide +kernel) (hts _ (List.mem_cons_of_mem _ m_156)) (fun _ h9 => h9) rfl d_Tree_append_63 ?_
    refine lv_aload_n hx hb d_Tree_append_66 rfl (lv_at hl 0 rfl) ?_
    refine va_get (D := (dC, dI)) (ci := 4) (v := .int T_size) (C := "SyntaxTrees$Tree") (T := F_Tree) (N := 15) hx hb hts (fun w h => List.mem_cons_of_mem _ (in_Tree w h)) hown hK.1 hP 0 rfl rfl 14 (by decide +kernel) (hts _ (List.mem_cons_of_mem _ m_161)) (fun _ h9 => h9) rfl d_Tree_append_67 ?_
    refine lv_iconst (v := (0 : Int32)) hx hb d_Tree_append_70 (by decide +kernel) ?_
    obtain ⟨h7, hf⟩ := x_gd hf
    refine x_iast (w1 := [(a_T, .inr (4, [.ref a_S, .ref a_R, .ref a_C, .ref a_M, .ref a_T_ruleOf, .ref a_T_sortOf, .ref a_T_startOf, .ref a_T_endOf, .ref a_T_firstPart, .ref a_T_partCount, .ref a_T_weight, .ref a_T_toldBefore, .ref a_T_told, .ref a_T_rests, .int T_size])), (a_T_ruleOf, .inl (cI, 11700, .inl (upd T_ruleOf T_size.toNatClampNeg (-1 : Int32)))), (a_T_sortOf, .inl (cI, 11700, .inl (upd T_sortOf T_size.toNatClampNeg p1))), (a_T_startOf, .inl (cI, 11700, .inl (upd T_startOf T_size.toNatClampNeg p2))), (a_T_endOf, .inl (cI, 11700, .inl (upd T_endOf T_size.toNatClampNeg p3))), (a_T_firstPart, .inl (cI, 11700, .inl (upd T_firstPart T_size.toNatClampNeg (-1 : Int32)))), (a_T_partCount, .inl (cI, 11700, .inl (upd T_partCount T_size.toNatClampNeg (0 : Int32))))]) hx hb hK.1 hP hD hS 6 0 rfl rfl h7 d_Tree_append_71 rfl (fun H locs hP hD hS => ?_)
    refine lv_aload_n hx hb d_Tree_append_72 rfl (lv_at hl 0 rfl) ?_
    refine lv_dup hx hb d_Tree_append_73 rfl ?_
    refine va_get (D := (dC, dI)) (ci := 4) (v := .int T_size) (C := "SyntaxTrees$Tree") (T := F_Tree) (N := 15) hx hb hts (fun w h => List.mem_cons_of_mem _ (in_Tree w h)) hown hK.1 hP 0 rfl rfl 14 (by decide +kernel) (hts _ (List.mem_cons_of_mem _ m_161)) (fun _ h9 => h9) rfl d_Tree_append_74 ?_
    refine lv_iconst (v := (1 : Int32)) hx hb d_Tree_append_77 (by decide +kernel) ?_
    refine lv_iadd hx hb d_Tree_append_78 ?_
    refine x_put (D := (dC, dI)) (ci := 4) (v := .int (T_size + (1 : Int32))) (ty := .int) (C := "SyntaxTrees$Tree") (T := F_Tree) (N := 15) (w1 := [(a_T, .inr (4, [.ref a_S, .ref a_R, .ref a_C, .ref a_M, .ref a_T_ruleOf, .ref a_T_sortOf, .ref a_T_startOf, .ref a_T_endOf, .ref a_T_firstPart, .ref a_T_partCount, .ref a_T_weight, .ref a_T_toldBefore, .ref a_T_told, .ref a_T_rests, .int (T_size + (1 : Int32))])), (a_T_ruleOf, .inl (cI, 11700, .inl (upd T_ruleOf T_size.toNatClampNeg (-1 : Int32)))), (a_T_sortOf, .inl (cI, 11700, .inl (upd T_sortOf T_size.toNatClampNeg p1))), (a_T_startOf, .inl (cI, 11700, .inl (upd T_startOf T_size.toNatClampNeg p2))), (a_T_endOf, .inl (cI, 11700, .inl (upd T_endOf T_size.toNatClampNeg p3))), (a_T_firstPart, .inl (cI, 11700, .inl (upd T_firstPart T_size.toNatClampNeg (-1 : Int32)))), (a_T_partCount, .inl (cI, 11700, .inl (upd T_partCount T_size.toNatClampNeg (0 : Int32))))]) hx hb hts (fun w h => List.mem_cons_of_mem _ (in_Tree w h)) t_Tree t_Tree_ok n_Tree hown hK.1 hP hD hS 0 rfl rfl 14 (by decide +kernel) (hts _ (List.mem_cons_of_mem _ m_161)) (fun _ h9 => h9) rfl (by decide +kernel) rfl rfl (Nat.le_of_ble_eq_true rfl) d_Tree_append_79 rfl (fun H locs hP hD hS => ?_)
    refine lv_iconst (v := (1 : Int32)) hx hb d_Tree_append_82 (by decide +kernel) ?_
    cases hf
    subst hQ
    exact W.zret hx hb hr rfl (fun t ht _ => ⟨⟨_, (), rfl, rfl, by rw [ht]; exact hP, hD⟩, hS.F ht⟩) hS.2.2 d_Tree_append_83
  · have hf := x_neg c1 hf
    refine lv_iconst (v := (0 : Int32)) hx hb d_Tree_append_10 (by decide +kernel) ?_
    cases hf
    subst hQ
    exact W.zret hx hb hr rfl (fun t ht _ => ⟨⟨_, (), rfl, rfl, by rw [ht]; exact hP, hD⟩, hS.F ht⟩) hS.2.2 d_Tree_append_11
set_option maxHeartbeats 4000000 in
set_option maxRecDepth 100000 in
theorem c_Tree_isVariableAlone (l : Launch) (dC : Nat → ClassId) (dI : Nat → Nat → Nat) (cI cJ cB : ClassId) (a_S a_S_types a_S_ranks a_S_typeRanks a_M a_M_row a_T a_R a_C a_T_ruleOf a_T_sortOf a_T_startOf a_T_endOf a_T_firstPart a_T_partCount a_T_weight a_T_toldBefore a_T_told a_T_rests : Nat)  (S_size : Int32) (S_sorts : Int32) (S_types : Nat → Int32) (M_length : Int32) (M_row : Nat → Int32) (T_size : Int32) (T_sortOf : Nat → Int32) (T_startOf : Nat → Int32) (T_endOf : Nat → Int32) (p1 : Int32) (n : Nat) (o : Int32) (hf : f_Tree_isVariableAlone n S_size S_types M_length M_row T_sortOf T_startOf T_endOf p1 = some o) : Met l y_Tree_isVariableAlone w_Tree_isVariableAlone ({ frames := 2, cells := 0, slots := 0, locals := 42 }) (va_Pc [.ref a_T, .int p1] (fun U => va_P (dC, dI) vwCl [(a_S, .inr (0, [.ref a_S_types, .ref a_S_ranks, .ref a_S_typeRanks, .int S_size, .int S_sorts])), (a_S_types, .inl (cI, 1000, .inl S_types)), (a_M, .inr (2, [.ref a_M_row, .int M_length])), (a_M_row, .inl (cI, 59, .inl M_row)), (a_T, .inr (4, [.ref a_S, .ref a_R, .ref a_C, .ref a_M, .ref a_T_ruleOf, .ref a_T_sortOf, .ref a_T_startOf, .ref a_T_endOf, .ref a_T_firstPart, .ref a_T_partCount, .ref a_T_weight, .ref a_T_toldBefore, .ref a_T_told, .ref a_T_rests, .int T_size])), (a_T_sortOf, .inl (cI, 11700, .inl T_sortOf)), (a_T_startOf, .inl (cI, 11700, .inl T_startOf)), (a_T_endOf, .inl (cI, 11700, .inl T_endOf))] U.heap ∧ x_K (dC, dI) [(cI, .int), (cJ, .long), (cB, .byte)] U)) (QcRead o) 0 0 (fun _ => False) := by
  refine Met.ofW (cc := b_Tree_isVariableAlone) (maxL := 3) (ret := (some .boolean)) (by decide +kernel) rfl ?_
  intro p e s m args below meth c s₁ B hml hv
  obtain ⟨rfl, hP, hK⟩ := hv
  have hx := B.exec
  have hb := B.bytes
  have hr := B.returns
  have hts := atoms_spec (ws := w_Tree_isVariableAlone) B.pre
  have hown : s.vm.findClass "SyntaxTrees$Tree" = some m.cls := findClass_of_methodNamed B.named
  have hlocks := B.notSynchronized
  have hP : va_P (dC, dI) vwCl [(a_S, .inr (0, [.ref a_S_types, .ref a_S_ranks, .ref a_S_typeRanks, .int S_size, .int S_sorts])), (a_S_types, .inl (cI, 1000, .inl S_types)), (a_M, .inr (2, [.ref a_M_row, .int M_length])), (a_M_row, .inl (cI, 59, .inl M_row)), (a_T, .inr (4, [.ref a_S, .ref a_R, .ref a_C, .ref a_M, .ref a_T_ruleOf, .ref a_T_sortOf, .ref a_T_startOf, .ref a_T_endOf, .ref a_T_firstPart, .ref a_T_partCount, .ref a_T_weight, .ref a_T_toldBefore, .ref a_T_told, .ref a_T_rests, .int T_size])), (a_T_sortOf, .inl (cI, 11700, .inl T_sortOf)), (a_T_startOf, .inl (cI, 11700, .inl T_startOf)), (a_T_endOf, .inl (cI, 11700, .inl T_endOf))] s.heap := hP
  have hl := lv_entry ([.ref a_T, .int p1]) (n := 3) (Nat.le_of_ble_eq_true rfl)
  rw [lg_entry_eq]
  generalize (lg_sl ([.ref a_T, .int p1]) ++ List.replicate (3 - (lg_sl ([.ref a_T, .int p1])).length) Slot.unset).toArray = ls at hl ⊢
  have hl : lv_has ls 3 [(0, .ref a_T), (1, .int p1)] := hl
  refine x_Q (fun Q hQ => ?_)
  unfold f_Tree_isVariableAlone at hf
  refine lv_aload_n hx hb d_Tree_isVariableAlone_0 rfl (lv_at hl 0 rfl) ?_
  refine va_get (D := (dC, dI)) (ci := 4) (v := .ref a_M) (C := "SyntaxTrees$Tree") (T := F_Tree) (N := 15) hx hb hts (fun w h => List.mem_cons_of_mem _ (in_Tree w h)) hown hK.1 hP 4 rfl rfl 3 (by decide +kernel) (hts _ (List.mem_cons_of_mem _ m_150)) (fun _ h9 => h9) rfl d_Tree_isVariableAlone_1 ?_
  refine lv_aload_n hx hb d_Tree_isVariableAlone_4 rfl (lv_at hl 0 rfl) ?_
  refine va_get (D := (dC, dI)) (ci := 4) (v := .ref a_T_startOf) (C := "SyntaxTrees$Tree") (T := F_Tree) (N := 15) hx hb hts (fun w h => List.mem_cons_of_mem _ (in_Tree w h)) hown hK.1 hP 4 rfl rfl 6 (by decide +kernel) (hts _ (List.mem_cons_of_mem _ m_153)) (fun _ h9 => h9) rfl d_Tree_isVariableAlone_5 ?_
  refine lv_iload_n hx hb d_Tree_isVariableAlone_8 rfl (lv_at hl 1 rfl) ?_
  obtain ⟨h1, hf⟩ := x_gd hf
  refine va_iald hx hb hK.1 hP 6 0 rfl rfl h1 d_Tree_isVariableAlone_9 ?_
  obtain ⟨x2, hx2, hf⟩ := x_bd hf
  refine x_rdiV (As := [.int (T_startOf p1.toNatClampNeg)]) (rest := []) (wc := [(a_M, .inr (2, [.ref a_M_row, .int M_length])), (a_M_row, .inl (cI, 59, .inl M_row))]) ⟨hx, hb, hml, hown, hts⟩ (c_Row_symbolAt l dC dI cI cJ cB a_M a_M_row M_length M_row (T_startOf p1.toNatClampNeg) n x2 hx2) (cwV 1 hts (x_gV m_421 m_325 m_326 m_45 m_327) rfl rfl rfl hd_Row_symbolAt ⟨Nat.le_of_ble_eq_true rfl, Nat.le_of_ble_eq_true rfl⟩) hK hP [2, 3] rfl (ci := 2) (q0 := 0) rfl rfl rfl rfl hl.1 rfl (Nat.le_of_ble_eq_true rfl) d_Tree_isVariableAlone_10 ⟨Nat.le_of_ble_eq_true rfl, Nat.le_of_ble_eq_true rfl⟩ ?_
  refine lv_istore_n (lv' := [(2, .int x2), (0, .ref a_T), (1, .int p1)]) hx hb d_Tree_isVariableAlone_13 rfl hl (by decide +kernel) rfl (fun ls hl => ?_)
  refine lv_aload_n hx hb d_Tree_isVariableAlone_14 rfl (lv_at hl 1 rfl) ?_
  refine va_get (D := (dC, dI)) (ci := 4) (v := .ref a_T_endOf) (C := "SyntaxTrees$Tree") (T := F_Tree) (N := 15) hx hb hts (fun w h => List.mem_cons_of_mem _ (in_Tree w h)) hown hK.1 hP 4 rfl rfl 7 (by decide +kernel) (hts _ (List.mem_cons_of_mem _ m_154)) (fun _ h9 => h9) rfl d_Tree_isVariableAlone_15 ?_
  refine lv_iload_n hx hb d_Tree_isVariableAlone_18 rfl (lv_at hl 2 rfl) ?_
  obtain ⟨h3, hf⟩ := x_gd hf
  refine va_iald hx hb hK.1 hP 7 0 rfl rfl h3 d_Tree_isVariableAlone_19 ?_
  refine lv_aload_n hx hb d_Tree_isVariableAlone_20 rfl (lv_at hl 1 rfl) ?_
  refine va_get (D := (dC, dI)) (ci := 4) (v := .ref a_T_startOf) (C := "SyntaxTrees$Tree") (T := F_Tree) (N := 15) hx hb hts (fun w h => List.mem_cons_of_mem _ (in_Tree w h)) hown hK.1 hP 4 rfl rfl 6 (by decide +kernel) (hts _ (List.mem_cons_of_mem _ m_153)) (fun _ h9 => h9) rfl d_Tree_isVariableAlone_21 ?_
  refine lv_iload_n hx hb d_Tree_isVariableAlone_24 rfl (lv_at hl 2 rfl) ?_
  obtain ⟨h4, hf⟩ := x_gd hf
  refine va_iald hx hb hK.1 hP 6 0 rfl rfl h4 d_Tree_isVariableAlone_25 ?_
  refine lv_iconst (v := (1 : Int32)) hx hb d_Tree_isVariableAlone_26 (by decide +kernel) ?_
  refine lv_iadd hx hb d_Tree_isVariableAlone_27 ?_
  refine lv_icmp_ne (tgt := 63) hx hb d_Tree_isVariableAlone_28 (by decide +kernel) (fun c5 => ?_) (fun c5 => ?_)
  · have hf := x_neg c5 hf
    refine lv_iconst (v := (0 : Int32)) hx hb d_Tree_isVariableAlone_63 (by decide +kernel) ?_
    cases hf
    subst hQ
    exact W.zret hx hb hr rfl (fun t ht _ => ⟨rfl, ht⟩) (fun _ h => absurd h List.not_mem_nil) d_Tree_isVariableAlone_64
  · have hf := x_pos c5 hf
    refine lv_aload_n hx hb d_Tree_isVariableAlone_31 rfl (lv_at hl 1 rfl) ?_
    refine va_get (D := (dC, dI)) (ci := 4) (v := .ref a_S) (C := "SyntaxTrees$Tree") (T := F_Tree) (N := 15) hx hb hts (fun w h => List.mem_cons_of_mem _ (in_Tree w h)) hown hK.1 hP 4 rfl rfl 0 (by decide +kernel) (hts _ (List.mem_cons_of_mem _ m_147)) (fun _ h9 => h9) rfl d_Tree_isVariableAlone_32 ?_
    refine lv_iload_n hx hb d_Tree_isVariableAlone_35 rfl (lv_at hl 0 rfl) ?_
    obtain ⟨x6, hx6, hf⟩ := x_bd hf
    refine x_rdiV (As := [.int x2]) (rest := []) (wc := [(a_S, .inr (0, [.ref a_S_types, .ref a_S_ranks, .ref a_S_typeRanks, .int S_size, .int S_sorts])), (a_S_types, .inl (cI, 1000, .inl S_types))]) ⟨hx, hb, hml, hown, hts⟩ (c_Symbols_isVariable l dC dI cI cJ cB a_S a_S_types a_S_ranks a_S_typeRanks S_size S_sorts S_types x2 n x6 hx6) (cwV 1 hts (x_gV m_422 m_240 m_241 m_43 m_242) rfl rfl rfl hd_Symbols_isVariable ⟨Nat.le_of_ble_eq_true rfl, Nat.le_of_ble_eq_true rfl⟩) hK hP [0, 1] rfl (ci := 0) (q0 := 0) rfl rfl rfl rfl hl.1 rfl (Nat.le_of_ble_eq_true rfl) d_Tree_isVariableAlone_36 ⟨Nat.le_of_ble_eq_true rfl, Nat.le_of_ble_eq_true rfl⟩ ?_
    refine lv_if_eq (tgt := 63) hx hb d_Tree_isVariableAlone_39 (by decide +kernel) (fun c7 => ?_) (fun c7 => ?_)
    · have hf := x_pos c7 hf
      refine lv_iconst (v := (0 : Int32)) hx hb d_Tree_isVariableAlone_63 (by decide +kernel) ?_
      cases hf
      subst hQ
      exact W.zret hx hb hr rfl (fun t ht _ => ⟨rfl, ht⟩) (fun _ h => absurd h List.not_mem_nil) d_Tree_isVariableAlone_64
    · have hf := x_neg c7 hf
      refine lv_aload_n hx hb d_Tree_isVariableAlone_42 rfl (lv_at hl 1 rfl) ?_
      refine va_get (D := (dC, dI)) (ci := 4) (v := .ref a_S) (C := "SyntaxTrees$Tree") (T := F_Tree) (N := 15) hx hb hts (fun w h => List.mem_cons_of_mem _ (in_Tree w h)) hown hK.1 hP 4 rfl rfl 0 (by decide +kernel) (hts _ (List.mem_cons_of_mem _ m_147)) (fun _ h9 => h9) rfl d_Tree_isVariableAlone_43 ?_
      refine lv_iload_n hx hb d_Tree_isVariableAlone_46 rfl (lv_at hl 0 rfl) ?_
      obtain ⟨x8, hx8, hf⟩ := x_bd hf
      refine x_rdiV (As := [.int x2]) (rest := []) (wc := [(a_S, .inr (0, [.ref a_S_types, .ref a_S_ranks, .ref a_S_typeRanks, .int S_size, .int S_sorts])), (a_S_types, .inl (cI, 1000, .inl S_types))]) ⟨hx, hb, hml, hown, hts⟩ (c_Symbols_typeOf l dC dI cI cJ cB a_S a_S_types a_S_ranks a_S_typeRanks S_size S_sorts S_types x2 n x8 hx8) (cwV 1 hts (x_gV m_423 m_333 m_334 m_43 m_335) rfl rfl rfl hd_Symbols_typeOf ⟨Nat.le_of_ble_eq_true rfl, Nat.le_of_ble_eq_true rfl⟩) hK hP [0, 1] rfl (ci := 0) (q0 := 0) rfl rfl rfl rfl hl.1 rfl (Nat.le_of_ble_eq_true rfl) d_Tree_isVariableAlone_47 ⟨Nat.le_of_ble_eq_true rfl, Nat.le_of_ble_eq_true rfl⟩ ?_
      refine lv_aload_n hx hb d_Tree_isVariableAlone_50 rfl (lv_at hl 1 rfl) ?_
      refine va_get (D := (dC, dI)) (ci := 4) (v := .ref a_T_sortOf) (C := "SyntaxTrees$Tree") (T := F_Tree) (N := 15) hx hb hts (fun w h => List.mem_cons_of_mem _ (in_Tree w h)) hown hK.1 hP 4 rfl rfl 5 (by decide +kernel) (hts _ (List.mem_cons_of_mem _ m_152)) (fun _ h9 => h9) rfl d_Tree_isVariableAlone_51 ?_
      refine lv_iload_n hx hb d_Tree_isVariableAlone_54 rfl (lv_at hl 2 rfl) ?_
      obtain ⟨h9, hf⟩ := x_gd hf
      refine va_iald hx hb hK.1 hP 5 0 rfl rfl h9 d_Tree_isVariableAlone_55 ?_
      refine lv_icmp_ne (tgt := 63) hx hb d_Tree_isVariableAlone_56 (by decide +kernel) (fun c10 => ?_) (fun c10 => ?_)
      · have hf := x_neg c10 hf
        refine lv_iconst (v := (0 : Int32)) hx hb d_Tree_isVariableAlone_63 (by decide +kernel) ?_
        cases hf
        subst hQ
        exact W.zret hx hb hr rfl (fun t ht _ => ⟨rfl, ht⟩) (fun _ h => absurd h List.not_mem_nil) d_Tree_isVariableAlone_64
      · have hf := x_pos c10 hf
        refine lv_iconst (v := (1 : Int32)) hx hb d_Tree_isVariableAlone_59 (by decide +kernel) ?_
        refine lv_goto (tgt := 64) hx hb d_Tree_isVariableAlone_60 (by decide +kernel) ?_
        cases hf
        subst hQ
        exact W.zret hx hb hr rfl (fun t ht _ => ⟨rfl, ht⟩) (fun _ h => absurd h List.not_mem_nil) d_Tree_isVariableAlone_64
set_option maxHeartbeats 4000000 in
set_option maxRecDepth 100000 in
theorem w_Tree_startsOf_L6 {p : Program} {l : Launch} {e : Env} {s : State} {m : MethodId} {args : Array Value} {below : List Frame} {meth : Method} {c : Code} {dC : Nat → ClassId} {dI : Nat → Nat → Nat} {cI cJ cB : ClassId} {a_S a_S_types a_S_ranks a_S_typeRanks a_W a_W_row a_M a_M_row a_C a_R a_C_starts a_C_severalStarts a_C_ends a_C_severalEnds a_C_reach a_C_severalReach a_C_found a_C_queue a_T a_T_ruleOf a_T_sortOf a_T_startOf a_T_endOf a_T_firstPart a_T_partCount a_T_weight a_T_toldBefore a_T_told a_T_rests : Nat} {H : Heap} {locs : List Loc} {Q : State → Prop} (n : Nat) (v1 : Int32) (v2 : Int64) (S_size : Int32) (S_sorts : Int32) (S_typeRanks : Nat → Int32) (W_length : Int32) (W_row : Nat → Int32) (M_length : Int32) (C_queued : Int32) (C_usable : Int32) (C_starts : Nat → Int64) (T_size : Int32) (hx : p.tables.exec = Jvm.exec) (hb : c.code = b_Tree_startsOf) (hml : c.maxLocals = 7) (hown : s.vm.findClass "SyntaxTrees$Tree" = some m.cls) (hts : ∀ w ∈ w_Tree_startsOf, w.before args s = true) (hK : x_K (dC, dI) [(cI, .int), (cJ, .long), (cB, .byte)] s) (hP : va_P (dC, dI) vwCl [(a_S, .inr (0, [.ref a_S_types, .ref a_S_ranks, .ref a_S_typeRanks, .int S_size, .int S_sorts])), (a_S_typeRanks, .inl (cI, 1000, .inl S_typeRanks)), (a_W, .inr (2, [.ref a_W_row, .int W_length])), (a_W_row, .inl (cI, 59, .inl W_row)), (a_M, .inr (2, [.ref a_M_row, .int M_length])), (a_C, .inr (3, [.ref a_S, .ref a_R, .ref a_W, .ref a_C_starts, .ref a_C_severalStarts, .ref a_C_ends, .ref a_C_severalEnds, .ref a_C_reach, .ref a_C_severalReach, .ref a_C_found, .ref a_C_queue, .int C_queued, .int C_usable])), (a_C_starts, .inl (cJ, 6000, .inr (.inl C_starts))), (a_T, .inr (4, [.ref a_S, .ref a_R, .ref a_C, .ref a_M, .ref a_T_ruleOf, .ref a_T_sortOf, .ref a_T_startOf, .ref a_T_endOf, .ref a_T_firstPart, .ref a_T_partCount, .ref a_T_weight, .ref a_T_toldBefore, .ref a_T_told, .ref a_T_rests, .int T_size]))] H) : ∀ (k : Nat) (v6 : Int32) (v4 : Int64) (o : Int32 × Int64) (ls : Array Slot), f_Tree_startsOf_L6 n v1 v2 S_size S_typeRanks W_length W_row M_length C_starts k v6 v4 = some o → lv_has ls 7 [(6, .int v6), (4, .long v4), (0, .ref a_T), (1, .int v1), (2, .long v2)] → (∀ ls : Array Slot, lv_has ls 7 [(6, .int o.1), (4, .long o.2), (0, .ref a_T), (1, .int v1), (2, .long v2)] → W p l e ({ frames := 3, cells := 0, slots := 0, locals := 66 }) s m args below meth c H locs 0 0 Q (F0 m 48 ls [])) → W p l e ({ frames := 3, cells := 0, slots := 0, locals := 66 }) s m args below meth c H locs 0 0 Q (F0 m 6 ls []) := by
  intro k
  induction k with
  | zero =>
    intro v6 v4 o ls hf
    exact absurd hf (by simp [f_Tree_startsOf_L6])
  | succ k ih =>
    intro v6 v4 o ls hf hl kk
    rw [f_Tree_startsOf_L6] at hf
    refine lv_iload hx hb d_Tree_startsOf_6 (lv_at hl 0 rfl) ?_
    refine lv_aload_n hx hb d_Tree_startsOf_8 rfl (lv_at hl 2 rfl) ?_
    refine va_get (D := (dC, dI)) (ci := 4) (v := .ref a_M) (C := "SyntaxTrees$Tree") (T := F_Tree) (N := 15) hx hb hts (fun w h => List.mem_cons_of_mem _ (in_Tree w h)) hown hK.1 hP 7 rfl rfl 3 (by decide +kernel) (hts _ (List.mem_cons_of_mem _ m_150)) (fun _ h9 => h9) rfl d_Tree_startsOf_9 ?_
    obtain ⟨x1, hx1, hf⟩ := x_bd hf
    refine x_rdiV (As := []) (rest := [.int v6]) (wc := [(a_M, .inr (2, [.ref a_M_row, .int M_length]))]) ⟨hx, hb, hml, hown, hts⟩ (c_Row_length l dC dI cI cJ cB a_M a_M_row M_length n x1 hx1) (cwV 0 hts (x_gV m_411 m_296 m_297 m_45 m_298) rfl rfl rfl hd_Row_length ⟨Nat.le_of_ble_eq_true rfl, Nat.le_of_ble_eq_true rfl⟩) hK hP [4] rfl (ci := 2) (q0 := 0) rfl rfl rfl rfl hl.1 rfl (Nat.le_of_ble_eq_true rfl) d_Tree_startsOf_12 ⟨Nat.le_of_ble_eq_true rfl, Nat.le_of_ble_eq_true rfl⟩ ?_
    refine lv_icmp_gt (tgt := 48) hx hb d_Tree_startsOf_15 (by decide +kernel) (fun c2 => ?_) (fun c2 => ?_)
    · have hf := x_pos c2 hf
      cases hf
      exact kk ls (lv_sub hl [0, 1, 2, 3, 4] rfl)
    · have hf := x_neg c2 hf
      refine lv_lload_n hx hb d_Tree_startsOf_18 rfl (lv_at hl 4 rfl) ?_
      refine lv_iload hx hb d_Tree_startsOf_19 (lv_at hl 0 rfl) ?_
      obtain ⟨x3, hx3, hf⟩ := x_bd hf
      refine x_rdiSN (As := [.long v2, .int v6]) (rest := []) (wc := []) ⟨hx, hb, hml, hown, hts⟩ (c_Top_hasBit l dC dI cI cJ cB v2 v6 n x3 hx3) ⟨va_cnB 2 hts (x_gC m_393) rfl rfl rfl (hK.2 _ nx_Tree_132) (hts _ (List.mem_cons_of_mem _ m_42)) hd_Top_hasBit.2 ⟨Nat.le_of_ble_eq_true rfl, Nat.le_of_ble_eq_true rfl⟩, (hts _ (List.mem_cons_of_mem _ m_392)), trivial⟩ hK hP [] rfl rfl hl.1 rfl (Nat.le_of_ble_eq_true rfl) d_Tree_startsOf_21 ⟨Nat.le_of_ble_eq_true rfl, Nat.le_of_ble_eq_true rfl⟩ ?_
      refine lv_if_eq (tgt := 42) hx hb d_Tree_startsOf_24 (by decide +kernel) (fun c4 => ?_) (fun c4 => ?_)
      · have hf := x_pos c4 hf
        refine lv_iinc (v := (v6 + (1 : Int32))) (lv' := [(6, .int (v6 + (1 : Int32))), (4, .long v4), (0, .ref a_T), (1, .int v1), (2, .long v2)]) hx hb d_Tree_startsOf_42 hl (k := 0) rfl rfl (by decide +kernel) rfl (fun ls hl => ?_)
        refine lv_goto (tgt := 6) hx hb d_Tree_startsOf_45 (by decide +kernel) ?_
        exact ih (v6 + (1 : Int32)) v4 o ls hf (lv_sub hl [0, 1, 2, 3, 4] rfl) kk
      · have hf := x_neg c4 hf
        refine lv_lload hx hb d_Tree_startsOf_27 (lv_at hl 1 rfl) ?_
        refine lv_aload_n hx hb d_Tree_startsOf_29 rfl (lv_at hl 2 rfl) ?_
        refine va_get (D := (dC, dI)) (ci := 4) (v := .ref a_C) (C := "SyntaxTrees$Tree") (T := F_Tree) (N := 15) hx hb hts (fun w h => List.mem_cons_of_mem _ (in_Tree w h)) hown hK.1 hP 7 rfl rfl 2 (by decide +kernel) (hts _ (List.mem_cons_of_mem _ m_149)) (fun _ h9 => h9) rfl d_Tree_startsOf_30 ?_
        refine lv_iload_n hx hb d_Tree_startsOf_33 rfl (lv_at hl 3 rfl) ?_
        refine lv_iload hx hb d_Tree_startsOf_34 (lv_at hl 0 rfl) ?_
        obtain ⟨x5, hx5, hf⟩ := x_bd hf
        refine x_rdlV (As := [.int v1, .int v6]) (rest := [.long v4]) (wc := [(a_S, .inr (0, [.ref a_S_types, .ref a_S_ranks, .ref a_S_typeRanks, .int S_size, .int S_sorts])), (a_S_typeRanks, .inl (cI, 1000, .inl S_typeRanks)), (a_W, .inr (2, [.ref a_W_row, .int W_length])), (a_W_row, .inl (cI, 59, .inl W_row)), (a_C, .inr (3, [.ref a_S, .ref a_R, .ref a_W, .ref a_C_starts, .ref a_C_severalStarts, .ref a_C_ends, .ref a_C_severalEnds, .ref a_C_reach, .ref a_C_severalReach, .ref a_C_found, .ref a_C_queue, .int C_queued, .int C_usable])), (a_C_starts, .inl (cJ, 6000, .inr (.inl C_starts)))]) ⟨hx, hb, hml, hown, hts⟩ (c_Chart_startsOf l dC dI cI cJ cB a_S a_S_types a_S_ranks a_S_typeRanks a_W a_W_row a_C a_R a_C_starts a_C_severalStarts a_C_ends a_C_severalEnds a_C_reach a_C_severalReach a_C_found a_C_queue S_size S_sorts S_typeRanks W_length W_row C_queued C_usable C_starts v1 v6 n x5 hx5) (cwV 2 hts (x_gV m_434 m_372 m_373 m_46 m_374) rfl rfl rfl hd_Chart_startsOf ⟨Nat.le_of_ble_eq_true rfl, Nat.le_of_ble_eq_true rfl⟩) hK hP [0, 1, 2, 3, 5, 6] rfl (ci := 3) (q0 := 4) rfl rfl rfl rfl hl.1 rfl (Nat.le_of_ble_eq_true rfl) d_Tree_startsOf_36 ⟨Nat.le_of_ble_eq_true rfl, Nat.le_of_ble_eq_true rfl⟩ ?_
        refine lv_lor hx hb d_Tree_startsOf_39 ?_
        refine lv_lstore (lv' := [(4, .long (v4 ||| x5)), (6, .int v6), (0, .ref a_T), (1, .int v1), (2, .long v2)]) hx hb d_Tree_startsOf_40 hl (by decide +kernel) rfl (fun ls hl => ?_)
        refine lv_iinc (v := (v6 + (1 : Int32))) (lv' := [(6, .int (v6 + (1 : Int32))), (4, .long (v4 ||| x5)), (0, .ref a_T), (1, .int v1), (2, .long v2)]) hx hb d_Tree_startsOf_42 hl (k := 1) rfl rfl (by decide +kernel) rfl (fun ls hl => ?_)
        refine lv_goto (tgt := 6) hx hb d_Tree_startsOf_45 (by decide +kernel) ?_
        exact ih (v6 + (1 : Int32)) (v4 ||| x5) o ls hf (lv_sub hl [0, 1, 2, 3, 4] rfl) kk
set_option maxHeartbeats 4000000 in
set_option maxRecDepth 100000 in
theorem c_Tree_startsOf (l : Launch) (dC : Nat → ClassId) (dI : Nat → Nat → Nat) (cI cJ cB : ClassId) (a_S a_S_types a_S_ranks a_S_typeRanks a_W a_W_row a_M a_M_row a_C a_R a_C_starts a_C_severalStarts a_C_ends a_C_severalEnds a_C_reach a_C_severalReach a_C_found a_C_queue a_T a_T_ruleOf a_T_sortOf a_T_startOf a_T_endOf a_T_firstPart a_T_partCount a_T_weight a_T_toldBefore a_T_told a_T_rests : Nat)  (S_size : Int32) (S_sorts : Int32) (S_typeRanks : Nat → Int32) (W_length : Int32) (W_row : Nat → Int32) (M_length : Int32) (C_queued : Int32) (C_usable : Int32) (C_starts : Nat → Int64) (T_size : Int32) (p1 : Int32) (p2 : Int64) (n : Nat) (o : Int64) (hf : f_Tree_startsOf n S_size S_typeRanks W_length W_row M_length C_starts p1 p2 = some o) : Met l y_Tree_startsOf w_Tree_startsOf ({ frames := 3, cells := 0, slots := 0, locals := 66 }) (va_Pc [.ref a_T, .int p1, .long p2] (fun U => va_P (dC, dI) vwCl [(a_S, .inr (0, [.ref a_S_types, .ref a_S_ranks, .ref a_S_typeRanks, .int S_size, .int S_sorts])), (a_S_typeRanks, .inl (cI, 1000, .inl S_typeRanks)), (a_W, .inr (2, [.ref a_W_row, .int W_length])), (a_W_row, .inl (cI, 59, .inl W_row)), (a_M, .inr (2, [.ref a_M_row, .int M_length])), (a_C, .inr (3, [.ref a_S, .ref a_R, .ref a_W, .ref a_C_starts, .ref a_C_severalStarts, .ref a_C_ends, .ref a_C_severalEnds, .ref a_C_reach, .ref a_C_severalReach, .ref a_C_found, .ref a_C_queue, .int C_queued, .int C_usable])), (a_C_starts, .inl (cJ, 6000, .inr (.inl C_starts))), (a_T, .inr (4, [.ref a_S, .ref a_R, .ref a_C, .ref a_M, .ref a_T_ruleOf, .ref a_T_sortOf, .ref a_T_startOf, .ref a_T_endOf, .ref a_T_firstPart, .ref a_T_partCount, .ref a_T_weight, .ref a_T_toldBefore, .ref a_T_told, .ref a_T_rests, .int T_size]))] U.heap ∧ x_K (dC, dI) [(cI, .int), (cJ, .long), (cB, .byte)] U)) (vp_Sl (fun r => r = o)) 0 0 (fun _ => False) := by
  refine Met.ofW (cc := b_Tree_startsOf) (maxL := 7) (ret := (some .long)) (by decide +kernel) rfl ?_
  intro p e s m args below meth c s₁ B hml hv
  obtain ⟨rfl, hP, hK⟩ := hv
  have hx := B.exec
  have hb := B.bytes
  have hr := B.returns
  have hts := atoms_spec (ws := w_Tree_startsOf) B.pre
  have hown : s.vm.findClass "SyntaxTrees$Tree" = some m.cls := findClass_of_methodNamed B.named
  have hlocks := B.notSynchronized
  have hP : va_P (dC, dI) vwCl [(a_S, .inr (0, [.ref a_S_types, .ref a_S_ranks, .ref a_S_typeRanks, .int S_size, .int S_sorts])), (a_S_typeRanks, .inl (cI, 1000, .inl S_typeRanks)), (a_W, .inr (2, [.ref a_W_row, .int W_length])), (a_W_row, .inl (cI, 59, .inl W_row)), (a_M, .inr (2, [.ref a_M_row, .int M_length])), (a_C, .inr (3, [.ref a_S, .ref a_R, .ref a_W, .ref a_C_starts, .ref a_C_severalStarts, .ref a_C_ends, .ref a_C_severalEnds, .ref a_C_reach, .ref a_C_severalReach, .ref a_C_found, .ref a_C_queue, .int C_queued, .int C_usable])), (a_C_starts, .inl (cJ, 6000, .inr (.inl C_starts))), (a_T, .inr (4, [.ref a_S, .ref a_R, .ref a_C, .ref a_M, .ref a_T_ruleOf, .ref a_T_sortOf, .ref a_T_startOf, .ref a_T_endOf, .ref a_T_firstPart, .ref a_T_partCount, .ref a_T_weight, .ref a_T_toldBefore, .ref a_T_told, .ref a_T_rests, .int T_size]))] s.heap := hP
  have hl := lv_entry ([.ref a_T, .int p1, .long p2]) (n := 7) (Nat.le_of_ble_eq_true rfl)
  rw [lg_entry_eq]
  generalize (lg_sl ([.ref a_T, .int p1, .long p2]) ++ List.replicate (7 - (lg_sl ([.ref a_T, .int p1, .long p2])).length) Slot.unset).toArray = ls at hl ⊢
  have hl : lv_has ls 7 [(0, .ref a_T), (1, .int p1), (2, .long p2)] := hl
  refine x_Q (fun Q hQ => ?_)
  unfold f_Tree_startsOf at hf
  refine lv_lconst (v := (0 : Int64)) hx hb d_Tree_startsOf_0 (by decide +kernel) ?_
  refine lv_lstore (lv' := [(4, .long (0 : Int64)), (0, .ref a_T), (1, .int p1), (2, .long p2)]) hx hb d_Tree_startsOf_1 hl (by decide +kernel) rfl (fun ls hl => ?_)
  refine lv_iconst (v := (1 : Int32)) hx hb d_Tree_startsOf_3 (by decide +kernel) ?_
  refine lv_istore (lv' := [(6, .int (1 : Int32)), (4, .long (0 : Int64)), (0, .ref a_T), (1, .int p1), (2, .long p2)]) hx hb d_Tree_startsOf_4 hl (by decide +kernel) rfl (fun ls hl => ?_)
  obtain ⟨x1, hx1, hf⟩ := x_bd hf
  refine w_Tree_startsOf_L6 n p1 p2 S_size S_sorts S_typeRanks W_length W_row M_length C_queued C_usable C_starts T_size hx hb hml hown hts hK hP n (1 : Int32) (0 : Int64) x1 ls hx1 (lv_sub hl [0, 1, 2, 3, 4] rfl) (fun ls hl => ?_)
  refine lv_lload hx hb d_Tree_startsOf_48 (lv_at hl 1 rfl) ?_
  cases hf
  subst hQ
  exact W.lret hx hb hr (fun t ht _ => ⟨_, rfl, rfl, ht⟩) (fun _ h => absurd h List.not_mem_nil) d_Tree_startsOf_50
set_option maxHeartbeats 4000000 in
set_option maxRecDepth 100000 in
theorem w_Tree_endAmong_L6 {p : Program} {l : Launch} {e : Env} {s : State} {m : MethodId} {args : Array Value} {below : List Frame} {meth : Method} {c : Code} {dC : Nat → ClassId} {dI : Nat → Nat → Nat} {cI cJ cB : ClassId} {a_S a_S_types a_S_ranks a_S_typeRanks a_W a_W_row a_M a_M_row a_C a_R a_C_starts a_C_severalStarts a_C_ends a_C_severalEnds a_C_reach a_C_severalReach a_C_found a_C_queue a_T a_T_ruleOf a_T_sortOf a_T_startOf a_T_endOf a_T_firstPart a_T_partCount a_T_weight a_T_toldBefore a_T_told a_T_rests : Nat} {H : Heap} {locs : List Loc} {Q : State → Prop} (n : Nat) (v1 : Int64) (v3 : Int32) (v4 : Int32) (S_size : Int32) (S_sorts : Int32) (S_typeRanks : Nat → Int32) (W_length : Int32) (W_row : Nat → Int32) (M_length : Int32) (C_queued : Int32) (C_usable : Int32) (C_starts : Nat → Int64) (T_size : Int32) (hx : p.tables.exec = Jvm.exec) (hb : c.code = b_Tree_endAmong) (hml : c.maxLocals = 6) (hown : s.vm.findClass "SyntaxTrees$Tree" = some m.cls) (hts : ∀ w ∈ w_Tree_endAmong, w.before args s = true) (hK : x_K (dC, dI) [(cI, .int), (cJ, .long), (cB, .byte)] s) (hr : meth.sig.returnType = some .int) (hlocks : meth.locks = false) (hP : va_P (dC, dI) vwCl [(a_S, .inr (0, [.ref a_S_types, .ref a_S_ranks, .ref a_S_typeRanks, .int S_size, .int S_sorts])), (a_S_typeRanks, .inl (cI, 1000, .inl S_typeRanks)), (a_W, .inr (2, [.ref a_W_row, .int W_length])), (a_W_row, .inl (cI, 59, .inl W_row)), (a_M, .inr (2, [.ref a_M_row, .int M_length])), (a_C, .inr (3, [.ref a_S, .ref a_R, .ref a_W, .ref a_C_starts, .ref a_C_severalStarts, .ref a_C_ends, .ref a_C_severalEnds, .ref a_C_reach, .ref a_C_severalReach, .ref a_C_found, .ref a_C_queue, .int C_queued, .int C_usable])), (a_C_starts, .inl (cJ, 6000, .inr (.inl C_starts))), (a_T, .inr (4, [.ref a_S, .ref a_R, .ref a_C, .ref a_M, .ref a_T_ruleOf, .ref a_T_sortOf, .ref a_T_startOf, .ref a_T_endOf, .ref a_T_firstPart, .ref a_T_partCount, .ref a_T_weight, .ref a_T_toldBefore, .ref a_T_told, .ref a_T_rests, .int T_size]))] H) (hH : H = s.heap) (hlc : locs = []) : ∀ (k : Nat) (v5 : Int32) (o : Int32) (ls : Array Slot), Q = MQ below (QcRead o) args s 0 0 (fun _ => False) → f_Tree_endAmong_L6 n v1 v3 v4 S_size S_typeRanks W_length W_row M_length C_starts k v5 = some o → lv_has ls 6 [(5, .int v5), (0, .ref a_T), (1, .long v1), (3, .int v3), (4, .int v4)] → W p l e ({ frames := 3, cells := 0, slots := 0, locals := 66 }) s m args below meth c H locs 0 0 Q (F0 m 6 ls []) := by
  subst hH
  subst hlc
  intro k
  induction k with
  | zero =>
    intro v5 o ls hQ hf
    exact absurd hf (by simp [f_Tree_endAmong_L6])
  | succ k ih =>
    intro v5 o ls hQ hf hl
    rw [f_Tree_endAmong_L6] at hf
    refine lv_iload hx hb d_Tree_endAmong_6 (lv_at hl 0 rfl) ?_
    refine lv_aload_n hx hb d_Tree_endAmong_8 rfl (lv_at hl 1 rfl) ?_
    refine va_get (D := (dC, dI)) (ci := 4) (v := .ref a_M) (C := "SyntaxTrees$Tree") (T := F_Tree) (N := 15) hx hb hts (fun w h => List.mem_cons_of_mem _ (in_Tree w h)) hown hK.1 hP 7 rfl rfl 3 (by decide +kernel) (hts _ (List.mem_cons_of_mem _ m_150)) (fun _ h9 => h9) rfl d_Tree_endAmong_9 ?_
    obtain ⟨x1, hx1, hf⟩ := x_bd hf
    refine x_rdiV (As := []) (rest := [.int v5]) (wc := [(a_M, .inr (2, [.ref a_M_row, .int M_length]))]) ⟨hx, hb, hml, hown, hts⟩ (c_Row_length l dC dI cI cJ cB a_M a_M_row M_length n x1 hx1) (cwV 0 hts (x_gV m_411 m_296 m_297 m_45 m_298) rfl rfl rfl hd_Row_length ⟨Nat.le_of_ble_eq_true rfl, Nat.le_of_ble_eq_true rfl⟩) hK hP [4] rfl (ci := 2) (q0 := 0) rfl rfl rfl rfl hl.1 rfl (Nat.le_of_ble_eq_true rfl) d_Tree_endAmong_12 ⟨Nat.le_of_ble_eq_true rfl, Nat.le_of_ble_eq_true rfl⟩ ?_
    refine lv_icmp_ge (tgt := 54) hx hb d_Tree_endAmong_15 (by decide +kernel) (fun c2 => ?_) (fun c2 => ?_)
    · have hf := x_pos c2 hf
      refine lv_aload_n hx hb d_Tree_endAmong_54 rfl (lv_at hl 1 rfl) ?_
      refine va_get (D := (dC, dI)) (ci := 4) (v := .ref a_M) (C := "SyntaxTrees$Tree") (T := F_Tree) (N := 15) hx hb hts (fun w h => List.mem_cons_of_mem _ (in_Tree w h)) hown hK.1 hP 7 rfl rfl 3 (by decide +kernel) (hts _ (List.mem_cons_of_mem _ m_150)) (fun _ h9 => h9) rfl d_Tree_endAmong_55 ?_
      obtain ⟨x3, hx3, hf⟩ := x_bd hf
      refine x_rdiV (As := []) (rest := []) (wc := [(a_M, .inr (2, [.ref a_M_row, .int M_length]))]) ⟨hx, hb, hml, hown, hts⟩ (c_Row_length l dC dI cI cJ cB a_M a_M_row M_length n x3 hx3) (cwV 0 hts (x_gV m_411 m_296 m_297 m_45 m_298) rfl rfl rfl hd_Row_length ⟨Nat.le_of_ble_eq_true rfl, Nat.le_of_ble_eq_true rfl⟩) hK hP [4] rfl (ci := 2) (q0 := 0) rfl rfl rfl rfl hl.1 rfl (Nat.le_of_ble_eq_true rfl) d_Tree_endAmong_58 ⟨Nat.le_of_ble_eq_true rfl, Nat.le_of_ble_eq_true rfl⟩ ?_
      cases hf
      subst hQ
      exact W.iret hx hb hr (fun t ht _ => ⟨rfl, ht⟩) (fun _ h => absurd h List.not_mem_nil) d_Tree_endAmong_61
    · have hf := x_neg c2 hf
      refine lv_lload_n hx hb d_Tree_endAmong_18 rfl (lv_at hl 2 rfl) ?_
      refine lv_iload hx hb d_Tree_endAmong_19 (lv_at hl 0 rfl) ?_
      obtain ⟨x4, hx4, hf⟩ := x_bd hf
      refine x_rdiSN (As := [.long v1, .int v5]) (rest := []) (wc := []) ⟨hx, hb, hml, hown, hts⟩ (c_Top_hasBit l dC dI cI cJ cB v1 v5 n x4 hx4) ⟨va_cnB 2 hts (x_gC m_393) rfl rfl rfl (hK.2 _ nx_Tree_132) (hts _ (List.mem_cons_of_mem _ m_42)) hd_Top_hasBit.2 ⟨Nat.le_of_ble_eq_true rfl, Nat.le_of_ble_eq_true rfl⟩, (hts _ (List.mem_cons_of_mem _ m_392)), trivial⟩ hK hP [] rfl rfl hl.1 rfl (Nat.le_of_ble_eq_true rfl) d_Tree_endAmong_21 ⟨Nat.le_of_ble_eq_true rfl, Nat.le_of_ble_eq_true rfl⟩ ?_
      refine lv_if_eq (tgt := 48) hx hb d_Tree_endAmong_24 (by decide +kernel) (fun c5 => ?_) (fun c5 => ?_)
      · have hf := x_pos c5 hf
        refine lv_iinc (v := (v5 + (1 : Int32))) (lv' := [(5, .int (v5 + (1 : Int32))), (0, .ref a_T), (1, .long v1), (3, .int v3), (4, .int v4)]) hx hb d_Tree_endAmong_48 hl (k := 0) rfl rfl (by decide +kernel) rfl (fun ls hl => ?_)
        refine lv_goto (tgt := 6) hx hb d_Tree_endAmong_51 (by decide +kernel) ?_
        exact ih (v5 + (1 : Int32)) o ls hQ hf (lv_sub hl [0, 1, 2, 3, 4] rfl)
      · have hf := x_neg c5 hf
        refine lv_aload_n hx hb d_Tree_endAmong_27 rfl (lv_at hl 1 rfl) ?_
        refine va_get (D := (dC, dI)) (ci := 4) (v := .ref a_C) (C := "SyntaxTrees$Tree") (T := F_Tree) (N := 15) hx hb hts (fun w h => List.mem_cons_of_mem _ (in_Tree w h)) hown hK.1 hP 7 rfl rfl 2 (by decide +kernel) (hts _ (List.mem_cons_of_mem _ m_149)) (fun _ h9 => h9) rfl d_Tree_endAmong_28 ?_
        refine lv_iload_n hx hb d_Tree_endAmong_31 rfl (lv_at hl 3 rfl) ?_
        refine lv_iload hx hb d_Tree_endAmong_32 (lv_at hl 0 rfl) ?_
        obtain ⟨x6, hx6, hf⟩ := x_bd hf
        refine x_rdlV (As := [.int v3, .int v5]) (rest := []) (wc := [(a_S, .inr (0, [.ref a_S_types, .ref a_S_ranks, .ref a_S_typeRanks, .int S_size, .int S_sorts])), (a_S_typeRanks, .inl (cI, 1000, .inl S_typeRanks)), (a_W, .inr (2, [.ref a_W_row, .int W_length])), (a_W_row, .inl (cI, 59, .inl W_row)), (a_C, .inr (3, [.ref a_S, .ref a_R, .ref a_W, .ref a_C_starts, .ref a_C_severalStarts, .ref a_C_ends, .ref a_C_severalEnds, .ref a_C_reach, .ref a_C_severalReach, .ref a_C_found, .ref a_C_queue, .int C_queued, .int C_usable])), (a_C_starts, .inl (cJ, 6000, .inr (.inl C_starts)))]) ⟨hx, hb, hml, hown, hts⟩ (c_Chart_startsOf l dC dI cI cJ cB a_S a_S_types a_S_ranks a_S_typeRanks a_W a_W_row a_C a_R a_C_starts a_C_severalStarts a_C_ends a_C_severalEnds a_C_reach a_C_severalReach a_C_found a_C_queue S_size S_sorts S_typeRanks W_length W_row C_queued C_usable C_starts v3 v5 n x6 hx6) (cwV 2 hts (x_gV m_434 m_372 m_373 m_46 m_374) rfl rfl rfl hd_Chart_startsOf ⟨Nat.le_of_ble_eq_true rfl, Nat.le_of_ble_eq_true rfl⟩) hK hP [0, 1, 2, 3, 5, 6] rfl (ci := 3) (q0 := 4) rfl rfl rfl rfl hl.1 rfl (Nat.le_of_ble_eq_true rfl) d_Tree_endAmong_34 ⟨Nat.le_of_ble_eq_true rfl, Nat.le_of_ble_eq_true rfl⟩ ?_
        refine lv_iload hx hb d_Tree_endAmong_37 (lv_at hl 4 rfl) ?_
        obtain ⟨x7, hx7, hf⟩ := x_bd hf
        refine x_rdiSN (As := [.long x6, .int v4]) (rest := []) (wc := []) ⟨hx, hb, hml, hown, hts⟩ (c_Top_hasBit l dC dI cI cJ cB x6 v4 n x7 hx7) ⟨va_cnB 2 hts (x_gC m_393) rfl rfl rfl (hK.2 _ nx_Tree_132) (hts _ (List.mem_cons_of_mem _ m_42)) hd_Top_hasBit.2 ⟨Nat.le_of_ble_eq_true rfl, Nat.le_of_ble_eq_true rfl⟩, (hts _ (List.mem_cons_of_mem _ m_392)), trivial⟩ hK hP [] rfl rfl hl.1 rfl (Nat.le_of_ble_eq_true rfl) d_Tree_endAmong_39 ⟨Nat.le_of_ble_eq_true rfl, Nat.le_of_ble_eq_true rfl⟩ ?_
        refine lv_if_eq (tgt := 48) hx hb d_Tree_endAmong_42 (by decide +kernel) (fun c8 => ?_) (fun c8 => ?_)
        · have hf := x_pos c8 hf
          refine lv_iinc (v := (v5 + (1 : Int32))) (lv' := [(5, .int (v5 + (1 : Int32))), (0, .ref a_T), (1, .long v1), (3, .int v3), (4, .int v4)]) hx hb d_Tree_endAmong_48 hl (k := 0) rfl rfl (by decide +kernel) rfl (fun ls hl => ?_)
          refine lv_goto (tgt := 6) hx hb d_Tree_endAmong_51 (by decide +kernel) ?_
          exact ih (v5 + (1 : Int32)) o ls hQ hf (lv_sub hl [0, 1, 2, 3, 4] rfl)
        · have hf := x_neg c8 hf
          refine lv_iload hx hb d_Tree_endAmong_45 (lv_at hl 0 rfl) ?_
          cases hf
          subst hQ
          exact W.iret hx hb hr (fun t ht _ => ⟨rfl, ht⟩) (fun _ h => absurd h List.not_mem_nil) d_Tree_endAmong_47
set_option maxHeartbeats 4000000 in
set_option maxRecDepth 100000 in
theorem c_Tree_endAmong (l : Launch) (dC : Nat → ClassId) (dI : Nat → Nat → Nat) (cI cJ cB : ClassId) (a_S a_S_types a_S_ranks a_S_typeRanks a_W a_W_row a_M a_M_row a_C a_R a_C_starts a_C_severalStarts a_C_ends a_C_severalEnds a_C_reach a_C_severalReach a_C_found a_C_queue a_T a_T_ruleOf a_T_sortOf a_T_startOf a_T_endOf a_T_firstPart a_T_partCount a_T_weight a_T_toldBefore a_T_told a_T_rests : Nat)  (S_size : Int32) (S_sorts : Int32) (S_typeRanks : Nat → Int32) (W_length : Int32) (W_row : Nat → Int32) (M_length : Int32) (C_queued : Int32) (C_usable : Int32) (C_starts : Nat → Int64) (T_size : Int32) (p1 : Int64) (p2 : Int32) (p3 : Int32) (n : Nat) (o : Int32) (hf : f_Tree_endAmong n S_size S_typeRanks W_length W_row M_length C_starts p1 p2 p3 = some o) : Met l y_Tree_endAmong w_Tree_endAmong ({ frames := 3, cells := 0, slots := 0, locals := 66 }) (va_Pc [.ref a_T, .long p1, .int p2, .int p3] (fun U => va_P (dC, dI) vwCl [(a_S, .inr (0, [.ref a_S_types, .ref a_S_ranks, .ref a_S_typeRanks, .int S_size, .int S_sorts])), (a_S_typeRanks, .inl (cI, 1000, .inl S_typeRanks)), (a_W, .inr (2, [.ref a_W_row, .int W_length])), (a_W_row, .inl (cI, 59, .inl W_row)), (a_M, .inr (2, [.ref a_M_row, .int M_length])), (a_C, .inr (3, [.ref a_S, .ref a_R, .ref a_W, .ref a_C_starts, .ref a_C_severalStarts, .ref a_C_ends, .ref a_C_severalEnds, .ref a_C_reach, .ref a_C_severalReach, .ref a_C_found, .ref a_C_queue, .int C_queued, .int C_usable])), (a_C_starts, .inl (cJ, 6000, .inr (.inl C_starts))), (a_T, .inr (4, [.ref a_S, .ref a_R, .ref a_C, .ref a_M, .ref a_T_ruleOf, .ref a_T_sortOf, .ref a_T_startOf, .ref a_T_endOf, .ref a_T_firstPart, .ref a_T_partCount, .ref a_T_weight, .ref a_T_toldBefore, .ref a_T_told, .ref a_T_rests, .int T_size]))] U.heap ∧ x_K (dC, dI) [(cI, .int), (cJ, .long), (cB, .byte)] U)) (QcRead o) 0 0 (fun _ => False) := by
  refine Met.ofW (cc := b_Tree_endAmong) (maxL := 6) (ret := (some .int)) (by decide +kernel) rfl ?_
  intro p e s m args below meth c s₁ B hml hv
  obtain ⟨rfl, hP, hK⟩ := hv
  have hx := B.exec
  have hb := B.bytes
  have hr := B.returns
  have hts := atoms_spec (ws := w_Tree_endAmong) B.pre
  have hown : s.vm.findClass "SyntaxTrees$Tree" = some m.cls := findClass_of_methodNamed B.named
  have hlocks := B.notSynchronized
  have hP : va_P (dC, dI) vwCl [(a_S, .inr (0, [.ref a_S_types, .ref a_S_ranks, .ref a_S_typeRanks, .int S_size, .int S_sorts])), (a_S_typeRanks, .inl (cI, 1000, .inl S_typeRanks)), (a_W, .inr (2, [.ref a_W_row, .int W_length])), (a_W_row, .inl (cI, 59, .inl W_row)), (a_M, .inr (2, [.ref a_M_row, .int M_length])), (a_C, .inr (3, [.ref a_S, .ref a_R, .ref a_W, .ref a_C_starts, .ref a_C_severalStarts, .ref a_C_ends, .ref a_C_severalEnds, .ref a_C_reach, .ref a_C_severalReach, .ref a_C_found, .ref a_C_queue, .int C_queued, .int C_usable])), (a_C_starts, .inl (cJ, 6000, .inr (.inl C_starts))), (a_T, .inr (4, [.ref a_S, .ref a_R, .ref a_C, .ref a_M, .ref a_T_ruleOf, .ref a_T_sortOf, .ref a_T_startOf, .ref a_T_endOf, .ref a_T_firstPart, .ref a_T_partCount, .ref a_T_weight, .ref a_T_toldBefore, .ref a_T_told, .ref a_T_rests, .int T_size]))] s.heap := hP
  have hl := lv_entry ([.ref a_T, .long p1, .int p2, .int p3]) (n := 6) (Nat.le_of_ble_eq_true rfl)
  rw [lg_entry_eq]
  generalize (lg_sl ([.ref a_T, .long p1, .int p2, .int p3]) ++ List.replicate (6 - (lg_sl ([.ref a_T, .long p1, .int p2, .int p3])).length) Slot.unset).toArray = ls at hl ⊢
  have hl : lv_has ls 6 [(0, .ref a_T), (1, .long p1), (3, .int p2), (4, .int p3)] := hl
  refine x_Q (fun Q hQ => ?_)
  unfold f_Tree_endAmong at hf
  refine lv_iload hx hb d_Tree_endAmong_0 (lv_at hl 3 rfl) ?_
  refine lv_iconst (v := (1 : Int32)) hx hb d_Tree_endAmong_2 (by decide +kernel) ?_
  refine lv_iadd hx hb d_Tree_endAmong_3 ?_
  refine lv_istore (lv' := [(5, .int (p3 + (1 : Int32))), (0, .ref a_T), (1, .long p1), (3, .int p2), (4, .int p3)]) hx hb d_Tree_endAmong_4 hl (by decide +kernel) rfl (fun ls hl => ?_)
  exact w_Tree_endAmong_L6 n p1 p2 p3 S_size S_sorts S_typeRanks W_length W_row M_length C_queued C_usable C_starts T_size hx hb hml hown hts hK hr hlocks hP rfl rfl n (p3 + (1 : Int32)) o ls hQ hf (lv_sub hl [0, 1, 2, 3, 4] rfl)
set_option maxHeartbeats 4000000 in
set_option maxRecDepth 100000 in
theorem w_Tree_weigh_L20 {p : Program} {l : Launch} {e : Env} {s : State} {m : MethodId} {args : Array Value} {below : List Frame} {meth : Method} {c : Code} {dC : Nat → ClassId} {dI : Nat → Nat → Nat} {cI cJ cB : ClassId} {a_T a_S a_R a_C a_M a_T_ruleOf a_T_sortOf a_T_startOf a_T_endOf a_T_firstPart a_T_partCount a_T_weight a_T_toldBefore a_T_told a_T_rests : Nat} {A : Nat → Prop} {Q : State → Prop} (n : Nat) (v1 : Int32) (T_size : Int32) (T_firstPart : Nat → Int32) (T_partCount : Nat → Int32) (hx : p.tables.exec = Jvm.exec) (hb : c.code = b_Tree_weigh) (hml : c.maxLocals = 3) (hown : s.vm.findClass "SyntaxTrees$Tree" = some m.cls) (hts : ∀ w ∈ w_Tree_weigh, w.before args s = true) (hK : x_K (dC, dI) [(cI, .int), (cJ, .long), (cB, .byte)] s) (hA : ∀ q, s.heap.size ≤ q → A q) : ∀ (k : Nat) (v2 : Int32) (T_weight : Nat → Int32) (o : Int32 × (Nat → Int32)) (H : Heap) (locs : List Loc) (ls : Array Slot), f_Tree_weigh_L20 n v1 T_firstPart T_partCount k v2 T_weight = some o → va_P (dC, dI) vwCl [(a_T, .inr (4, [.ref a_S, .ref a_R, .ref a_C, .ref a_M, .ref a_T_ruleOf, .ref a_T_sortOf, .ref a_T_startOf, .ref a_T_endOf, .ref a_T_firstPart, .ref a_T_partCount, .ref a_T_weight, .ref a_T_toldBefore, .ref a_T_told, .ref a_T_rests, .int T_size])), (a_T_firstPart, .inl (cI, 11700, .inl T_firstPart)), (a_T_partCount, .inl (cI, 11700, .inl T_partCount)), (a_T_weight, .inl (cI, 11700, .inl T_weight))] H → va_D A [(a_T, .inr (4, [.ref a_S, .ref a_R, .ref a_C, .ref a_M, .ref a_T_ruleOf, .ref a_T_sortOf, .ref a_T_startOf, .ref a_T_endOf, .ref a_T_firstPart, .ref a_T_partCount, .ref a_T_weight, .ref a_T_toldBefore, .ref a_T_told, .ref a_T_rests, .int T_size])), (a_T_firstPart, .inl (cI, 11700, .inl T_firstPart)), (a_T_partCount, .inl (cI, 11700, .inl T_partCount)), (a_T_weight, .inl (cI, 11700, .inl T_weight))] → va_S A s.heap H locs → lv_has ls 3 [(2, .int v2), (1, .int v1), (0, .ref a_T)] → (∀ (H : Heap) (locs : List Loc) (ls : Array Slot), va_P (dC, dI) vwCl [(a_T, .inr (4, [.ref a_S, .ref a_R, .ref a_C, .ref a_M, .ref a_T_ruleOf, .ref a_T_sortOf, .ref a_T_startOf, .ref a_T_endOf, .ref a_T_firstPart, .ref a_T_partCount, .ref a_T_weight, .ref a_T_toldBefore, .ref a_T_told, .ref a_T_rests, .int T_size])), (a_T_firstPart, .inl (cI, 11700, .inl T_firstPart)), (a_T_partCount, .inl (cI, 11700, .inl T_partCount)), (a_T_weight, .inl (cI, 11700, .inl o.2))] H → va_D A [(a_T, .inr (4, [.ref a_S, .ref a_R, .ref a_C, .ref a_M, .ref a_T_ruleOf, .ref a_T_sortOf, .ref a_T_startOf, .ref a_T_endOf, .ref a_T_firstPart, .ref a_T_partCount, .ref a_T_weight, .ref a_T_toldBefore, .ref a_T_told, .ref a_T_rests, .int T_size])), (a_T_firstPart, .inl (cI, 11700, .inl T_firstPart)), (a_T_partCount, .inl (cI, 11700, .inl T_partCount)), (a_T_weight, .inl (cI, 11700, .inl o.2))] → va_S A s.heap H locs → lv_has ls 3 [(2, .int o.1), (1, .int v1), (0, .ref a_T)] → W p l e ({ frames := 0, cells := 0, slots := 0, locals := 0 }) s m args below meth c H locs 0 0 Q (F0 m 58 ls [])) → W p l e ({ frames := 0, cells := 0, slots := 0, locals := 0 }) s m args below meth c H locs 0 0 Q (F0 m 20 ls []) := by
  intro k
  induction k with
  | zero =>
    intro v2 T_weight o H locs ls hf
    exact absurd hf (by simp [f_Tree_weigh_L20])
  | succ k ih =>
    intro v2 T_weight o H locs ls hf hP hD hS hl kk
    rw [f_Tree_weigh_L20] at hf
    refine lv_iload_n hx hb d_Tree_weigh_20 rfl (lv_at hl 0 rfl) ?_
    refine lv_aload_n hx hb d_Tree_weigh_21 rfl (lv_at hl 2 rfl) ?_
    refine va_get (D := (dC, dI)) (ci := 4) (v := .ref a_T_partCount) (C := "SyntaxTrees$Tree") (T := F_Tree) (N := 15) hx hb hts (fun w h => List.mem_cons_of_mem _ (in_Tree w h)) hown hK.1 hP 0 rfl rfl 9 (by decide +kernel) (hts _ (List.mem_cons_of_mem _ m_156)) (fun _ h9 => h9) rfl d_Tree_weigh_22 ?_
    refine lv_iload_n hx hb d_Tree_weigh_25 rfl (lv_at hl 1 rfl) ?_
    obtain ⟨h1, hf⟩ := x_gd hf
    refine va_iald hx hb hK.1 hP 2 0 rfl rfl h1 d_Tree_weigh_26 ?_
    refine lv_icmp_ge (tgt := 58) hx hb d_Tree_weigh_27 (by decide +kernel) (fun c2 => ?_) (fun c2 => ?_)
    · have hf := x_pos c2 hf
      cases hf
      exact kk _ _ ls hP hD hS (lv_sub hl [0, 1, 2] rfl)
    · have hf := x_neg c2 hf
      refine lv_aload_n hx hb d_Tree_weigh_30 rfl (lv_at hl 2 rfl) ?_
      refine va_get (D := (dC, dI)) (ci := 4) (v := .ref a_T_weight) (C := "SyntaxTrees$Tree") (T := F_Tree) (N := 15) hx hb hts (fun w h => List.mem_cons_of_mem _ (in_Tree w h)) hown hK.1 hP 0 rfl rfl 10 (by decide +kernel) (hts _ (List.mem_cons_of_mem _ m_157)) (fun _ h9 => h9) rfl d_Tree_weigh_31 ?_
      refine lv_iload_n hx hb d_Tree_weigh_34 rfl (lv_at hl 1 rfl) ?_
      refine lv_dup2_11 hx hb d_Tree_weigh_35 rfl rfl ?_
      obtain ⟨h3, hf⟩ := x_gd hf
      refine va_iald hx hb hK.1 hP 3 0 rfl rfl h3 d_Tree_weigh_36 ?_
      refine lv_aload_n hx hb d_Tree_weigh_37 rfl (lv_at hl 2 rfl) ?_
      refine va_get (D := (dC, dI)) (ci := 4) (v := .ref a_T_weight) (C := "SyntaxTrees$Tree") (T := F_Tree) (N := 15) hx hb hts (fun w h => List.mem_cons_of_mem _ (in_Tree w h)) hown hK.1 hP 0 rfl rfl 10 (by decide +kernel) (hts _ (List.mem_cons_of_mem _ m_157)) (fun _ h9 => h9) rfl d_Tree_weigh_38 ?_
      refine lv_aload_n hx hb d_Tree_weigh_41 rfl (lv_at hl 2 rfl) ?_
      refine va_get (D := (dC, dI)) (ci := 4) (v := .ref a_T_firstPart) (C := "SyntaxTrees$Tree") (T := F_Tree) (N := 15) hx hb hts (fun w h => List.mem_cons_of_mem _ (in_Tree w h)) hown hK.1 hP 0 rfl rfl 8 (by decide +kernel) (hts _ (List.mem_cons_of_mem _ m_155)) (fun _ h9 => h9) rfl d_Tree_weigh_42 ?_
      refine lv_iload_n hx hb d_Tree_weigh_45 rfl (lv_at hl 1 rfl) ?_
      obtain ⟨h4, hf⟩ := x_gd hf
      refine va_iald hx hb hK.1 hP 1 0 rfl rfl h4 d_Tree_weigh_46 ?_
      refine lv_iload_n hx hb d_Tree_weigh_47 rfl (lv_at hl 0 rfl) ?_
      refine lv_iadd hx hb d_Tree_weigh_48 ?_
      obtain ⟨h5, hf⟩ := x_gd hf
      refine va_iald hx hb hK.1 hP 3 0 rfl rfl h5 d_Tree_weigh_49 ?_
      refine lv_iadd hx hb d_Tree_weigh_50 ?_
      obtain ⟨h6, hf⟩ := x_gd hf
      refine x_iast (w1 := [(a_T, .inr (4, [.ref a_S, .ref a_R, .ref a_C, .ref a_M, .ref a_T_ruleOf, .ref a_T_sortOf, .ref a_T_startOf, .ref a_T_endOf, .ref a_T_firstPart, .ref a_T_partCount, .ref a_T_weight, .ref a_T_toldBefore, .ref a_T_told, .ref a_T_rests, .int T_size])), (a_T_firstPart, .inl (cI, 11700, .inl T_firstPart)), (a_T_partCount, .inl (cI, 11700, .inl T_partCount)), (a_T_weight, .inl (cI, 11700, .inl (upd T_weight v1.toNatClampNeg ((T_weight v1.toNatClampNeg) + (T_weight ((T_firstPart v1.toNatClampNeg) + v2).toNatClampNeg)))))]) hx hb hK.1 hP hD hS 3 0 rfl rfl h6 d_Tree_weigh_51 rfl (fun H locs hP hD hS => ?_)
      refine lv_iinc (v := (v2 + (1 : Int32))) (lv' := [(2, .int (v2 + (1 : Int32))), (1, .int v1), (0, .ref a_T)]) hx hb d_Tree_weigh_52 hl (k := 0) rfl rfl (by decide +kernel) rfl (fun ls hl => ?_)
      refine lv_goto (tgt := 20) hx hb d_Tree_weigh_55 (by decide +kernel) ?_
      exact ih (v2 + (1 : Int32)) (upd T_weight v1.toNatClampNeg ((T_weight v1.toNatClampNeg) + (T_weight ((T_firstPart v1.toNatClampNeg) + v2).toNatClampNeg))) o _ _ ls hf hP hD hS (lv_sub hl [0, 1, 2] rfl) kk
set_option maxHeartbeats 4000000 in
set_option maxRecDepth 100000 in
theorem w_Tree_weigh_L7 {p : Program} {l : Launch} {e : Env} {s : State} {m : MethodId} {args : Array Value} {below : List Frame} {meth : Method} {c : Code} {dC : Nat → ClassId} {dI : Nat → Nat → Nat} {cI cJ cB : ClassId} {a_T a_S a_R a_C a_M a_T_ruleOf a_T_sortOf a_T_startOf a_T_endOf a_T_firstPart a_T_partCount a_T_weight a_T_toldBefore a_T_told a_T_rests : Nat} {A : Nat → Prop} {Q : State → Prop} (n : Nat)  (T_size : Int32) (T_firstPart : Nat → Int32) (T_partCount : Nat → Int32) (hx : p.tables.exec = Jvm.exec) (hb : c.code = b_Tree_weigh) (hml : c.maxLocals = 3) (hown : s.vm.findClass "SyntaxTrees$Tree" = some m.cls) (hts : ∀ w ∈ w_Tree_weigh, w.before args s = true) (hK : x_K (dC, dI) [(cI, .int), (cJ, .long), (cB, .byte)] s) (hA : ∀ q, s.heap.size ≤ q → A q) : ∀ (k : Nat) (v1 : Int32) (T_weight : Nat → Int32) (o : Int32 × (Nat → Int32)) (H : Heap) (locs : List Loc) (ls : Array Slot), f_Tree_weigh_L7 n T_firstPart T_partCount k v1 T_weight = some o → va_P (dC, dI) vwCl [(a_T, .inr (4, [.ref a_S, .ref a_R, .ref a_C, .ref a_M, .ref a_T_ruleOf, .ref a_T_sortOf, .ref a_T_startOf, .ref a_T_endOf, .ref a_T_firstPart, .ref a_T_partCount, .ref a_T_weight, .ref a_T_toldBefore, .ref a_T_told, .ref a_T_rests, .int T_size])), (a_T_firstPart, .inl (cI, 11700, .inl T_firstPart)), (a_T_partCount, .inl (cI, 11700, .inl T_partCount)), (a_T_weight, .inl (cI, 11700, .inl T_weight))] H → va_D A [(a_T, .inr (4, [.ref a_S, .ref a_R, .ref a_C, .ref a_M, .ref a_T_ruleOf, .ref a_T_sortOf, .ref a_T_startOf, .ref a_T_endOf, .ref a_T_firstPart, .ref a_T_partCount, .ref a_T_weight, .ref a_T_toldBefore, .ref a_T_told, .ref a_T_rests, .int T_size])), (a_T_firstPart, .inl (cI, 11700, .inl T_firstPart)), (a_T_partCount, .inl (cI, 11700, .inl T_partCount)), (a_T_weight, .inl (cI, 11700, .inl T_weight))] → va_S A s.heap H locs → lv_has ls 3 [(1, .int v1), (0, .ref a_T)] → (∀ (H : Heap) (locs : List Loc) (ls : Array Slot), va_P (dC, dI) vwCl [(a_T, .inr (4, [.ref a_S, .ref a_R, .ref a_C, .ref a_M, .ref a_T_ruleOf, .ref a_T_sortOf, .ref a_T_startOf, .ref a_T_endOf, .ref a_T_firstPart, .ref a_T_partCount, .ref a_T_weight, .ref a_T_toldBefore, .ref a_T_told, .ref a_T_rests, .int T_size])), (a_T_firstPart, .inl (cI, 11700, .inl T_firstPart)), (a_T_partCount, .inl (cI, 11700, .inl T_partCount)), (a_T_weight, .inl (cI, 11700, .inl o.2))] H → va_D A [(a_T, .inr (4, [.ref a_S, .ref a_R, .ref a_C, .ref a_M, .ref a_T_ruleOf, .ref a_T_sortOf, .ref a_T_startOf, .ref a_T_endOf, .ref a_T_firstPart, .ref a_T_partCount, .ref a_T_weight, .ref a_T_toldBefore, .ref a_T_told, .ref a_T_rests, .int T_size])), (a_T_firstPart, .inl (cI, 11700, .inl T_firstPart)), (a_T_partCount, .inl (cI, 11700, .inl T_partCount)), (a_T_weight, .inl (cI, 11700, .inl o.2))] → va_S A s.heap H locs → lv_has ls 3 [(1, .int o.1), (0, .ref a_T)] → W p l e ({ frames := 0, cells := 0, slots := 0, locals := 0 }) s m args below meth c H locs 0 0 Q (F0 m 64 ls [])) → W p l e ({ frames := 0, cells := 0, slots := 0, locals := 0 }) s m args below meth c H locs 0 0 Q (F0 m 7 ls []) := by
  intro k
  induction k with
  | zero =>
    intro v1 T_weight o H locs ls hf
    exact absurd hf (by simp [f_Tree_weigh_L7])
  | succ k ih =>
    intro v1 T_weight o H locs ls hf hP hD hS hl kk
    rw [f_Tree_weigh_L7] at hf
    refine lv_iload_n hx hb d_Tree_weigh_7 rfl (lv_at hl 0 rfl) ?_
    refine lv_if_lt (tgt := 64) hx hb d_Tree_weigh_8 (by decide +kernel) (fun c1 => ?_) (fun c1 => ?_)
    · have hf := x_pos c1 hf
      cases hf
      exact kk _ _ ls hP hD hS (lv_sub hl [0, 1] rfl)
    · have hf := x_neg c1 hf
      refine lv_aload_n hx hb d_Tree_weigh_11 rfl (lv_at hl 1 rfl) ?_
      refine va_get (D := (dC, dI)) (ci := 4) (v := .ref a_T_weight) (C := "SyntaxTrees$Tree") (T := F_Tree) (N := 15) hx hb hts (fun w h => List.mem_cons_of_mem _ (in_Tree w h)) hown hK.1 hP 0 rfl rfl 10 (by decide +kernel) (hts _ (List.mem_cons_of_mem _ m_157)) (fun _ h9 => h9) rfl d_Tree_weigh_12 ?_
      refine lv_iload_n hx hb d_Tree_weigh_15 rfl (lv_at hl 0 rfl) ?_
      refine lv_iconst (v := (1 : Int32)) hx hb d_Tree_weigh_16 (by decide +kernel) ?_
      obtain ⟨h2, hf⟩ := x_gd hf
      refine x_iast (w1 := [(a_T, .inr (4, [.ref a_S, .ref a_R, .ref a_C, .ref a_M, .ref a_T_ruleOf, .ref a_T_sortOf, .ref a_T_startOf, .ref a_T_endOf, .ref a_T_firstPart, .ref a_T_partCount, .ref a_T_weight, .ref a_T_toldBefore, .ref a_T_told, .ref a_T_rests, .int T_size])), (a_T_firstPart, .inl (cI, 11700, .inl T_firstPart)), (a_T_partCount, .inl (cI, 11700, .inl T_partCount)), (a_T_weight, .inl (cI, 11700, .inl (upd T_weight v1.toNatClampNeg (1 : Int32))))]) hx hb hK.1 hP hD hS 3 0 rfl rfl h2 d_Tree_weigh_17 rfl (fun H locs hP hD hS => ?_)
      refine lv_iconst (v := (0 : Int32)) hx hb d_Tree_weigh_18 (by decide +kernel) ?_
      refine lv_istore_n (lv' := [(2, .int (0 : Int32)), (1, .int v1), (0, .ref a_T)]) hx hb d_Tree_weigh_19 rfl hl (by decide +kernel) rfl (fun ls hl => ?_)
      obtain ⟨x3, hx3, hf⟩ := x_bd hf
      refine w_Tree_weigh_L20 n v1 T_size T_firstPart T_partCount hx hb hml hown hts hK hA n (0 : Int32) (upd T_weight v1.toNatClampNeg (1 : Int32)) x3 _ _ ls hx3 hP hD hS (lv_sub hl [0, 1, 2] rfl) (fun H locs ls hP hD hS hl => ?_)
      refine lv_iinc (v := (v1 + (-1 : Int32))) (lv' := [(1, .int (v1 + (-1 : Int32))), (2, .int x3.1), (0, .ref a_T)]) hx hb d_Tree_weigh_58 hl (k := 1) rfl rfl (by decide +kernel) rfl (fun ls hl => ?_)
      refine lv_goto (tgt := 7) hx hb d_Tree_weigh_61 (by decide +kernel) ?_
      exact ih (v1 + (-1 : Int32)) x3.2 o _ _ ls hf hP hD hS (lv_sub hl [0, 2] rfl) kk
set_option maxHeartbeats 4000000 in
set_option maxRecDepth 100000 in
theorem c_Tree_weigh (l : Launch) (dC : Nat → ClassId) (dI : Nat → Nat → Nat) (cI cJ cB : ClassId) (a_T a_S a_R a_C a_M a_T_ruleOf a_T_sortOf a_T_startOf a_T_endOf a_T_firstPart a_T_partCount a_T_weight a_T_toldBefore a_T_told a_T_rests : Nat)  (T_size : Int32) (T_firstPart : Nat → Int32) (T_partCount : Nat → Int32) (T_weight : Nat → Int32)  (sz : Nat) (n : Nat) (o : Nat → Int32) (hf : f_Tree_weigh n T_size T_firstPart T_partCount T_weight = some o) : Met l y_Tree_weigh w_Tree_weigh ({ frames := 0, cells := 0, slots := 0, locals := 0 }) (va_Pc [.ref a_T] (fun U => U.heap.size = sz ∧ va_P (dC, dI) vwCl [(a_T, .inr (4, [.ref a_S, .ref a_R, .ref a_C, .ref a_M, .ref a_T_ruleOf, .ref a_T_sortOf, .ref a_T_startOf, .ref a_T_endOf, .ref a_T_firstPart, .ref a_T_partCount, .ref a_T_weight, .ref a_T_toldBefore, .ref a_T_told, .ref a_T_rests, .int T_size])), (a_T_firstPart, .inl (cI, 11700, .inl T_firstPart)), (a_T_partCount, .inl (cI, 11700, .inl T_partCount)), (a_T_weight, .inl (cI, 11700, .inl T_weight))] U.heap ∧ x_K (dC, dI) [(cI, .int), (cJ, .long), (cB, .byte)] U ∧ va_D (fun _ => True) [(a_T, .inr (4, [.ref a_S, .ref a_R, .ref a_C, .ref a_M, .ref a_T_ruleOf, .ref a_T_sortOf, .ref a_T_startOf, .ref a_T_endOf, .ref a_T_firstPart, .ref a_T_partCount, .ref a_T_weight, .ref a_T_toldBefore, .ref a_T_told, .ref a_T_rests, .int T_size])), (a_T_firstPart, .inl (cI, 11700, .inl T_firstPart)), (a_T_partCount, .inl (cI, 11700, .inl T_partCount)), (a_T_weight, .inl (cI, 11700, .inl T_weight))])) (va_Qv (fun (_ : Unit) => True) (fun _ t => va_P (dC, dI) vwCl [(a_T, .inr (4, [.ref a_S, .ref a_R, .ref a_C, .ref a_M, .ref a_T_ruleOf, .ref a_T_sortOf, .ref a_T_startOf, .ref a_T_endOf, .ref a_T_firstPart, .ref a_T_partCount, .ref a_T_weight, .ref a_T_toldBefore, .ref a_T_told, .ref a_T_rests, .int T_size])), (a_T_firstPart, .inl (cI, 11700, .inl T_firstPart)), (a_T_partCount, .inl (cI, 11700, .inl T_partCount)), (a_T_weight, .inl (cI, 11700, .inl o))] t.heap ∧ va_D (va_A [(a_T, .inr (4, [.ref a_S, .ref a_R, .ref a_C, .ref a_M, .ref a_T_ruleOf, .ref a_T_sortOf, .ref a_T_startOf, .ref a_T_endOf, .ref a_T_firstPart, .ref a_T_partCount, .ref a_T_weight, .ref a_T_toldBefore, .ref a_T_told, .ref a_T_rests, .int T_size])), (a_T_firstPart, .inl (cI, 11700, .inl T_firstPart)), (a_T_partCount, .inl (cI, 11700, .inl T_partCount)), (a_T_weight, .inl (cI, 11700, .inl T_weight))] sz) [(a_T, .inr (4, [.ref a_S, .ref a_R, .ref a_C, .ref a_M, .ref a_T_ruleOf, .ref a_T_sortOf, .ref a_T_startOf, .ref a_T_endOf, .ref a_T_firstPart, .ref a_T_partCount, .ref a_T_weight, .ref a_T_toldBefore, .ref a_T_told, .ref a_T_rests, .int T_size])), (a_T_firstPart, .inl (cI, 11700, .inl T_firstPart)), (a_T_partCount, .inl (cI, 11700, .inl T_partCount)), (a_T_weight, .inl (cI, 11700, .inl o))]) (va_A [(a_T, .inr (4, [.ref a_S, .ref a_R, .ref a_C, .ref a_M, .ref a_T_ruleOf, .ref a_T_sortOf, .ref a_T_startOf, .ref a_T_endOf, .ref a_T_firstPart, .ref a_T_partCount, .ref a_T_weight, .ref a_T_toldBefore, .ref a_T_told, .ref a_T_rests, .int T_size])), (a_T_firstPart, .inl (cI, 11700, .inl T_firstPart)), (a_T_partCount, .inl (cI, 11700, .inl T_partCount)), (a_T_weight, .inl (cI, 11700, .inl T_weight))] sz)) 0 0 (va_A [(a_T, .inr (4, [.ref a_S, .ref a_R, .ref a_C, .ref a_M, .ref a_T_ruleOf, .ref a_T_sortOf, .ref a_T_startOf, .ref a_T_endOf, .ref a_T_firstPart, .ref a_T_partCount, .ref a_T_weight, .ref a_T_toldBefore, .ref a_T_told, .ref a_T_rests, .int T_size])), (a_T_firstPart, .inl (cI, 11700, .inl T_firstPart)), (a_T_partCount, .inl (cI, 11700, .inl T_partCount)), (a_T_weight, .inl (cI, 11700, .inl T_weight))] sz) := by
  refine Met.ofW (cc := b_Tree_weigh) (maxL := 3) (ret := none) (by decide +kernel) rfl ?_
  intro p e s m args below meth c s₁ B hml hv
  obtain ⟨rfl, hsz, hP, hK, hD0⟩ := hv
  have hx := B.exec
  have hb := B.bytes
  have hr := B.returns
  have hts := atoms_spec (ws := w_Tree_weigh) B.pre
  have hown : s.vm.findClass "SyntaxTrees$Tree" = some m.cls := findClass_of_methodNamed B.named
  have hlocks := B.notSynchronized
  subst hsz
  have hD := hD0.self (sz := s.heap.size)
  generalize hAe : va_A [(a_T, .inr (4, [.ref a_S, .ref a_R, .ref a_C, .ref a_M, .ref a_T_ruleOf, .ref a_T_sortOf, .ref a_T_startOf, .ref a_T_endOf, .ref a_T_firstPart, .ref a_T_partCount, .ref a_T_weight, .ref a_T_toldBefore, .ref a_T_told, .ref a_T_rests, .int T_size])), (a_T_firstPart, .inl (cI, 11700, .inl T_firstPart)), (a_T_partCount, .inl (cI, 11700, .inl T_partCount)), (a_T_weight, .inl (cI, 11700, .inl T_weight))] s.heap.size = A at hD ⊢
  have hA : ∀ q : Nat, s.heap.size ≤ q → A q := fun q h => by rw [← hAe]; exact Or.inr h
  have hS : va_S A s.heap s.heap [] := va_S.rf
  have hP : va_P (dC, dI) vwCl [(a_T, .inr (4, [.ref a_S, .ref a_R, .ref a_C, .ref a_M, .ref a_T_ruleOf, .ref a_T_sortOf, .ref a_T_startOf, .ref a_T_endOf, .ref a_T_firstPart, .ref a_T_partCount, .ref a_T_weight, .ref a_T_toldBefore, .ref a_T_told, .ref a_T_rests, .int T_size])), (a_T_firstPart, .inl (cI, 11700, .inl T_firstPart)), (a_T_partCount, .inl (cI, 11700, .inl T_partCount)), (a_T_weight, .inl (cI, 11700, .inl T_weight))] s.heap := hP
  have hl := lv_entry ([.ref a_T]) (n := 3) (Nat.le_of_ble_eq_true rfl)
  rw [lg_entry_eq]
  generalize (lg_sl ([.ref a_T]) ++ List.replicate (3 - (lg_sl ([.ref a_T])).length) Slot.unset).toArray = ls at hl ⊢
  have hl : lv_has ls 3 [(0, .ref a_T)] := hl
  refine x_Q (fun Q hQ => ?_)
  unfold f_Tree_weigh at hf
  refine lv_aload_n hx hb d_Tree_weigh_0 rfl (lv_at hl 0 rfl) ?_
  refine va_get (D := (dC, dI)) (ci := 4) (v := .int T_size) (C := "SyntaxTrees$Tree") (T := F_Tree) (N := 15) hx hb hts (fun w h => List.mem_cons_of_mem _ (in_Tree w h)) hown hK.1 hP 0 rfl rfl 14 (by decide +kernel) (hts _ (List.mem_cons_of_mem _ m_161)) (fun _ h9 => h9) rfl d_Tree_weigh_1 ?_
  refine lv_iconst (v := (1 : Int32)) hx hb d_Tree_weigh_4 (by decide +kernel) ?_
  refine lv_isub hx hb d_Tree_weigh_5 ?_
  refine lv_istore_n (lv' := [(1, .int (T_size - (1 : Int32))), (0, .ref a_T)]) hx hb d_Tree_weigh_6 rfl hl (by decide +kernel) rfl (fun ls hl => ?_)
  obtain ⟨x1, hx1, hf⟩ := x_bd hf
  refine w_Tree_weigh_L7 n T_size T_firstPart T_partCount hx hb hml hown hts hK hA n (T_size - (1 : Int32)) T_weight x1 _ _ ls hx1 hP hD hS (lv_sub hl [0, 1] rfl) (fun H locs ls hP hD hS hl => ?_)
  cases hf
  subst hQ
  exact W.vret hx hb hr (fun t ht _ => ⟨⟨(), rfl, trivial, by rw [ht]; exact hP, hD⟩, hS.F ht⟩) hS.2.2 d_Tree_weigh_64
set_option maxHeartbeats 4000000 in
set_option maxRecDepth 100000 in
theorem w_Tree_tell_L26 {p : Program} {l : Launch} {e : Env} {s : State} {m : MethodId} {args : Array Value} {below : List Frame} {meth : Method} {c : Code} {dC : Nat → ClassId} {dI : Nat → Nat → Nat} {cI cJ cB : ClassId} {a_M a_M_row a_T a_S a_R a_C a_T_ruleOf a_T_sortOf a_T_startOf a_T_endOf a_T_firstPart a_T_partCount a_T_weight a_T_toldBefore a_T_told a_T_rests : Nat} {A : Nat → Prop} {Q : State → Prop} (n : Nat) (v1 : Int32) (M_length : Int32) (M_row : Nat → Int32) (T_size : Int32) (T_ruleOf : Nat → Int32) (T_startOf : Nat → Int32) (T_firstPart : Nat → Int32) (T_partCount : Nat → Int32) (T_weight : Nat → Int32) (T_told : Nat → Int32) (hx : p.tables.exec = Jvm.exec) (hb : c.code = b_Tree_tell) (hml : c.maxLocals = 4) (hown : s.vm.findClass "SyntaxTrees$Tree" = some m.cls) (hts : ∀ w ∈ w_Tree_tell, w.before args s = true) (hK : x_K (dC, dI) [(cI, .int), (cJ, .long), (cB, .byte)] s) (hA : ∀ q, s.heap.size ≤ q → A q) : ∀ (k : Nat) (v3 : Int32) (v2 : Int32) (T_toldBefore : Nat → Int32) (o : Int32 × Int32 × (Nat → Int32)) (H : Heap) (locs : List Loc) (ls : Array Slot), f_Tree_tell_L26 n v1 T_firstPart T_partCount T_weight k v3 v2 T_toldBefore = some o → va_P (dC, dI) vwCl [(a_M, .inr (2, [.ref a_M_row, .int M_length])), (a_M_row, .inl (cI, 59, .inl M_row)), (a_T, .inr (4, [.ref a_S, .ref a_R, .ref a_C, .ref a_M, .ref a_T_ruleOf, .ref a_T_sortOf, .ref a_T_startOf, .ref a_T_endOf, .ref a_T_firstPart, .ref a_T_partCount, .ref a_T_weight, .ref a_T_toldBefore, .ref a_T_told, .ref a_T_rests, .int T_size])), (a_T_ruleOf, .inl (cI, 11700, .inl T_ruleOf)), (a_T_startOf, .inl (cI, 11700, .inl T_startOf)), (a_T_firstPart, .inl (cI, 11700, .inl T_firstPart)), (a_T_partCount, .inl (cI, 11700, .inl T_partCount)), (a_T_weight, .inl (cI, 11700, .inl T_weight)), (a_T_toldBefore, .inl (cI, 11700, .inl T_toldBefore)), (a_T_told, .inl (cI, 11700, .inl T_told))] H → va_D A [(a_M, .inr (2, [.ref a_M_row, .int M_length])), (a_M_row, .inl (cI, 59, .inl M_row)), (a_T, .inr (4, [.ref a_S, .ref a_R, .ref a_C, .ref a_M, .ref a_T_ruleOf, .ref a_T_sortOf, .ref a_T_startOf, .ref a_T_endOf, .ref a_T_firstPart, .ref a_T_partCount, .ref a_T_weight, .ref a_T_toldBefore, .ref a_T_told, .ref a_T_rests, .int T_size])), (a_T_ruleOf, .inl (cI, 11700, .inl T_ruleOf)), (a_T_startOf, .inl (cI, 11700, .inl T_startOf)), (a_T_firstPart, .inl (cI, 11700, .inl T_firstPart)), (a_T_partCount, .inl (cI, 11700, .inl T_partCount)), (a_T_weight, .inl (cI, 11700, .inl T_weight)), (a_T_toldBefore, .inl (cI, 11700, .inl T_toldBefore)), (a_T_told, .inl (cI, 11700, .inl T_told))] → va_S A s.heap H locs → lv_has ls 4 [(3, .int v3), (2, .int v2), (1, .int v1), (0, .ref a_T)] → (∀ (H : Heap) (locs : List Loc) (ls : Array Slot), va_P (dC, dI) vwCl [(a_M, .inr (2, [.ref a_M_row, .int M_length])), (a_M_row, .inl (cI, 59, .inl M_row)), (a_T, .inr (4, [.ref a_S, .ref a_R, .ref a_C, .ref a_M, .ref a_T_ruleOf, .ref a_T_sortOf, .ref a_T_startOf, .ref a_T_endOf, .ref a_T_firstPart, .ref a_T_partCount, .ref a_T_weight, .ref a_T_toldBefore, .ref a_T_told, .ref a_T_rests, .int T_size])), (a_T_ruleOf, .inl (cI, 11700, .inl T_ruleOf)), (a_T_startOf, .inl (cI, 11700, .inl T_startOf)), (a_T_firstPart, .inl (cI, 11700, .inl T_firstPart)), (a_T_partCount, .inl (cI, 11700, .inl T_partCount)), (a_T_weight, .inl (cI, 11700, .inl T_weight)), (a_T_toldBefore, .inl (cI, 11700, .inl o.2.2)), (a_T_told, .inl (cI, 11700, .inl T_told))] H → va_D A [(a_M, .inr (2, [.ref a_M_row, .int M_length])), (a_M_row, .inl (cI, 59, .inl M_row)), (a_T, .inr (4, [.ref a_S, .ref a_R, .ref a_C, .ref a_M, .ref a_T_ruleOf, .ref a_T_sortOf, .ref a_T_startOf, .ref a_T_endOf, .ref a_T_firstPart, .ref a_T_partCount, .ref a_T_weight, .ref a_T_toldBefore, .ref a_T_told, .ref a_T_rests, .int T_size])), (a_T_ruleOf, .inl (cI, 11700, .inl T_ruleOf)), (a_T_startOf, .inl (cI, 11700, .inl T_startOf)), (a_T_firstPart, .inl (cI, 11700, .inl T_firstPart)), (a_T_partCount, .inl (cI, 11700, .inl T_partCount)), (a_T_weight, .inl (cI, 11700, .inl T_weight)), (a_T_toldBefore, .inl (cI, 11700, .inl o.2.2)), (a_T_told, .inl (cI, 11700, .inl T_told))] → va_S A s.heap H locs → lv_has ls 4 [(3, .int o.1), (2, .int o.2.1), (1, .int v1), (0, .ref a_T)] → W p l e ({ frames := 1, cells := 0, slots := 0, locals := 21 }) s m args below meth c H locs 0 0 Q (F0 m 72 ls [])) → W p l e ({ frames := 1, cells := 0, slots := 0, locals := 21 }) s m args below meth c H locs 0 0 Q (F0 m 26 ls []) := by
  intro k
  induction k with
  | zero =>
    intro v3 v2 T_toldBefore o H locs ls hf
    exact absurd hf (by simp [f_Tree_tell_L26])
  | succ k ih =>
    intro v3 v2 T_toldBefore o H locs ls hf hP hD hS hl kk
    rw [f_Tree_tell_L26] at hf
    refine lv_iload_n hx hb d_Tree_tell_26 rfl (lv_at hl 0 rfl) ?_
    refine lv_aload_n hx hb d_Tree_tell_27 rfl (lv_at hl 3 rfl) ?_
    refine va_get (D := (dC, dI)) (ci := 4) (v := .ref a_T_partCount) (C := "SyntaxTrees$Tree") (T := F_Tree) (N := 15) hx hb hts (fun w h => List.mem_cons_of_mem _ (in_Tree w h)) hown hK.1 hP 2 rfl rfl 9 (by decide +kernel) (hts _ (List.mem_cons_of_mem _ m_156)) (fun _ h9 => h9) rfl d_Tree_tell_28 ?_
    refine lv_iload_n hx hb d_Tree_tell_31 rfl (lv_at hl 2 rfl) ?_
    obtain ⟨h1, hf⟩ := x_gd hf
    refine va_iald hx hb hK.1 hP 6 0 rfl rfl h1 d_Tree_tell_32 ?_
    refine lv_icmp_ge (tgt := 72) hx hb d_Tree_tell_33 (by decide +kernel) (fun c2 => ?_) (fun c2 => ?_)
    · have hf := x_pos c2 hf
      cases hf
      exact kk _ _ ls hP hD hS (lv_sub hl [0, 1, 2, 3] rfl)
    · have hf := x_neg c2 hf
      refine lv_aload_n hx hb d_Tree_tell_36 rfl (lv_at hl 3 rfl) ?_
      refine va_get (D := (dC, dI)) (ci := 4) (v := .ref a_T_toldBefore) (C := "SyntaxTrees$Tree") (T := F_Tree) (N := 15) hx hb hts (fun w h => List.mem_cons_of_mem _ (in_Tree w h)) hown hK.1 hP 2 rfl rfl 11 (by decide +kernel) (hts _ (List.mem_cons_of_mem _ m_158)) (fun _ h9 => h9) rfl d_Tree_tell_37 ?_
      refine lv_aload_n hx hb d_Tree_tell_40 rfl (lv_at hl 3 rfl) ?_
      refine va_get (D := (dC, dI)) (ci := 4) (v := .ref a_T_firstPart) (C := "SyntaxTrees$Tree") (T := F_Tree) (N := 15) hx hb hts (fun w h => List.mem_cons_of_mem _ (in_Tree w h)) hown hK.1 hP 2 rfl rfl 8 (by decide +kernel) (hts _ (List.mem_cons_of_mem _ m_155)) (fun _ h9 => h9) rfl d_Tree_tell_41 ?_
      refine lv_iload_n hx hb d_Tree_tell_44 rfl (lv_at hl 2 rfl) ?_
      obtain ⟨h3, hf⟩ := x_gd hf
      refine va_iald hx hb hK.1 hP 5 0 rfl rfl h3 d_Tree_tell_45 ?_
      refine lv_iload_n hx hb d_Tree_tell_46 rfl (lv_at hl 0 rfl) ?_
      refine lv_iadd hx hb d_Tree_tell_47 ?_
      refine lv_iload_n hx hb d_Tree_tell_48 rfl (lv_at hl 1 rfl) ?_
      obtain ⟨h4, hf⟩ := x_gd hf
      refine x_iast (w1 := [(a_M, .inr (2, [.ref a_M_row, .int M_length])), (a_M_row, .inl (cI, 59, .inl M_row)), (a_T, .inr (4, [.ref a_S, .ref a_R, .ref a_C, .ref a_M, .ref a_T_ruleOf, .ref a_T_sortOf, .ref a_T_startOf, .ref a_T_endOf, .ref a_T_firstPart, .ref a_T_partCount, .ref a_T_weight, .ref a_T_toldBefore, .ref a_T_told, .ref a_T_rests, .int T_size])), (a_T_ruleOf, .inl (cI, 11700, .inl T_ruleOf)), (a_T_startOf, .inl (cI, 11700, .inl T_startOf)), (a_T_firstPart, .inl (cI, 11700, .inl T_firstPart)), (a_T_partCount, .inl (cI, 11700, .inl T_partCount)), (a_T_weight, .inl (cI, 11700, .inl T_weight)), (a_T_toldBefore, .inl (cI, 11700, .inl (upd T_toldBefore ((T_firstPart v1.toNatClampNeg) + v3).toNatClampNeg v2))), (a_T_told, .inl (cI, 11700, .inl T_told))]) hx hb hK.1 hP hD hS 8 0 rfl rfl h4 d_Tree_tell_49 rfl (fun H locs hP hD hS => ?_)
      refine lv_iload_n hx hb d_Tree_tell_50 rfl (lv_at hl 1 rfl) ?_
      refine lv_aload_n hx hb d_Tree_tell_51 rfl (lv_at hl 3 rfl) ?_
      refine va_get (D := (dC, dI)) (ci := 4) (v := .ref a_T_weight) (C := "SyntaxTrees$Tree") (T := F_Tree) (N := 15) hx hb hts (fun w h => List.mem_cons_of_mem _ (in_Tree w h)) hown hK.1 hP 2 rfl rfl 10 (by decide +kernel) (hts _ (List.mem_cons_of_mem _ m_157)) (fun _ h9 => h9) rfl d_Tree_tell_52 ?_
      refine lv_aload_n hx hb d_Tree_tell_55 rfl (lv_at hl 3 rfl) ?_
      refine va_get (D := (dC, dI)) (ci := 4) (v := .ref a_T_firstPart) (C := "SyntaxTrees$Tree") (T := F_Tree) (N := 15) hx hb hts (fun w h => List.mem_cons_of_mem _ (in_Tree w h)) hown hK.1 hP 2 rfl rfl 8 (by decide +kernel) (hts _ (List.mem_cons_of_mem _ m_155)) (fun _ h9 => h9) rfl d_Tree_tell_56 ?_
      refine lv_iload_n hx hb d_Tree_tell_59 rfl (lv_at hl 2 rfl) ?_
      obtain ⟨h5, hf⟩ := x_gd hf
      refine va_iald hx hb hK.1 hP 5 0 rfl rfl h5 d_Tree_tell_60 ?_
      refine lv_iload_n hx hb d_Tree_tell_61 rfl (lv_at hl 0 rfl) ?_
      refine lv_iadd hx hb d_Tree_tell_62 ?_
      obtain ⟨h6, hf⟩ := x_gd hf
      refine va_iald hx hb hK.1 hP 7 0 rfl rfl h6 d_Tree_tell_63 ?_
      refine lv_iadd hx hb d_Tree_tell_64 ?_
      refine lv_istore_n (lv' := [(2, .int (v2 + (T_weight ((T_firstPart v1.toNatClampNeg) + v3).toNatClampNeg))), (3, .int v3), (1, .int v1), (0, .ref a_T)]) hx hb d_Tree_tell_65 rfl hl (by decide +kernel) rfl (fun ls hl => ?_)
      refine lv_iinc (v := (v3 + (1 : Int32))) (lv' := [(3, .int (v3 + (1 : Int32))), (2, .int (v2 + (T_weight ((T_firstPart v1.toNatClampNeg) + v3).toNatClampNeg))), (1, .int v1), (0, .ref a_T)]) hx hb d_Tree_tell_66 hl (k := 1) rfl rfl (by decide +kernel) rfl (fun ls hl => ?_)
      refine lv_goto (tgt := 26) hx hb d_Tree_tell_69 (by decide +kernel) ?_
      exact ih (v3 + (1 : Int32)) (v2 + (T_weight ((T_firstPart v1.toNatClampNeg) + v3).toNatClampNeg)) (upd T_toldBefore ((T_firstPart v1.toNatClampNeg) + v3).toNatClampNeg v2) o _ _ ls hf hP hD hS (lv_sub hl [0, 1, 2, 3] rfl) kk
set_option maxHeartbeats 4000000 in
set_option maxRecDepth 100000 in
theorem w_Tree_tell_L9 {p : Program} {l : Launch} {e : Env} {s : State} {m : MethodId} {args : Array Value} {below : List Frame} {meth : Method} {c : Code} {dC : Nat → ClassId} {dI : Nat → Nat → Nat} {cI cJ cB : ClassId} {a_M a_M_row a_T a_S a_R a_C a_T_ruleOf a_T_sortOf a_T_startOf a_T_endOf a_T_firstPart a_T_partCount a_T_weight a_T_toldBefore a_T_told a_T_rests : Nat} {A : Nat → Prop} {Q : State → Prop} (n : Nat)  (M_length : Int32) (M_row : Nat → Int32) (T_size : Int32) (T_ruleOf : Nat → Int32) (T_startOf : Nat → Int32) (T_firstPart : Nat → Int32) (T_partCount : Nat → Int32) (T_weight : Nat → Int32) (hx : p.tables.exec = Jvm.exec) (hb : c.code = b_Tree_tell) (hml : c.maxLocals = 4) (hown : s.vm.findClass "SyntaxTrees$Tree" = some m.cls) (hts : ∀ w ∈ w_Tree_tell, w.before args s = true) (hK : x_K (dC, dI) [(cI, .int), (cJ, .long), (cB, .byte)] s) (hA : ∀ q, s.heap.size ≤ q → A q) : ∀ (k : Nat) (v1 : Int32) (T_toldBefore : Nat → Int32) (T_told : Nat → Int32) (o : Int32 × (Nat → Int32) × (Nat → Int32)) (H : Heap) (locs : List Loc) (ls : Array Slot), f_Tree_tell_L9 n M_length M_row T_size T_ruleOf T_startOf T_firstPart T_partCount T_weight k v1 T_toldBefore T_told = some o → va_P (dC, dI) vwCl [(a_M, .inr (2, [.ref a_M_row, .int M_length])), (a_M_row, .inl (cI, 59, .inl M_row)), (a_T, .inr (4, [.ref a_S, .ref a_R, .ref a_C, .ref a_M, .ref a_T_ruleOf, .ref a_T_sortOf, .ref a_T_startOf, .ref a_T_endOf, .ref a_T_firstPart, .ref a_T_partCount, .ref a_T_weight, .ref a_T_toldBefore, .ref a_T_told, .ref a_T_rests, .int T_size])), (a_T_ruleOf, .inl (cI, 11700, .inl T_ruleOf)), (a_T_startOf, .inl (cI, 11700, .inl T_startOf)), (a_T_firstPart, .inl (cI, 11700, .inl T_firstPart)), (a_T_partCount, .inl (cI, 11700, .inl T_partCount)), (a_T_weight, .inl (cI, 11700, .inl T_weight)), (a_T_toldBefore, .inl (cI, 11700, .inl T_toldBefore)), (a_T_told, .inl (cI, 11700, .inl T_told))] H → va_D A [(a_M, .inr (2, [.ref a_M_row, .int M_length])), (a_M_row, .inl (cI, 59, .inl M_row)), (a_T, .inr (4, [.ref a_S, .ref a_R, .ref a_C, .ref a_M, .ref a_T_ruleOf, .ref a_T_sortOf, .ref a_T_startOf, .ref a_T_endOf, .ref a_T_firstPart, .ref a_T_partCount, .ref a_T_weight, .ref a_T_toldBefore, .ref a_T_told, .ref a_T_rests, .int T_size])), (a_T_ruleOf, .inl (cI, 11700, .inl T_ruleOf)), (a_T_startOf, .inl (cI, 11700, .inl T_startOf)), (a_T_firstPart, .inl (cI, 11700, .inl T_firstPart)), (a_T_partCount, .inl (cI, 11700, .inl T_partCount)), (a_T_weight, .inl (cI, 11700, .inl T_weight)), (a_T_toldBefore, .inl (cI, 11700, .inl T_toldBefore)), (a_T_told, .inl (cI, 11700, .inl T_told))] → va_S A s.heap H locs → lv_has ls 4 [(1, .int v1), (0, .ref a_T)] → (∀ (H : Heap) (locs : List Loc) (ls : Array Slot), va_P (dC, dI) vwCl [(a_M, .inr (2, [.ref a_M_row, .int M_length])), (a_M_row, .inl (cI, 59, .inl M_row)), (a_T, .inr (4, [.ref a_S, .ref a_R, .ref a_C, .ref a_M, .ref a_T_ruleOf, .ref a_T_sortOf, .ref a_T_startOf, .ref a_T_endOf, .ref a_T_firstPart, .ref a_T_partCount, .ref a_T_weight, .ref a_T_toldBefore, .ref a_T_told, .ref a_T_rests, .int T_size])), (a_T_ruleOf, .inl (cI, 11700, .inl T_ruleOf)), (a_T_startOf, .inl (cI, 11700, .inl T_startOf)), (a_T_firstPart, .inl (cI, 11700, .inl T_firstPart)), (a_T_partCount, .inl (cI, 11700, .inl T_partCount)), (a_T_weight, .inl (cI, 11700, .inl T_weight)), (a_T_toldBefore, .inl (cI, 11700, .inl o.2.1)), (a_T_told, .inl (cI, 11700, .inl o.2.2))] H → va_D A [(a_M, .inr (2, [.ref a_M_row, .int M_length])), (a_M_row, .inl (cI, 59, .inl M_row)), (a_T, .inr (4, [.ref a_S, .ref a_R, .ref a_C, .ref a_M, .ref a_T_ruleOf, .ref a_T_sortOf, .ref a_T_startOf, .ref a_T_endOf, .ref a_T_firstPart, .ref a_T_partCount, .ref a_T_weight, .ref a_T_toldBefore, .ref a_T_told, .ref a_T_rests, .int T_size])), (a_T_ruleOf, .inl (cI, 11700, .inl T_ruleOf)), (a_T_startOf, .inl (cI, 11700, .inl T_startOf)), (a_T_firstPart, .inl (cI, 11700, .inl T_firstPart)), (a_T_partCount, .inl (cI, 11700, .inl T_partCount)), (a_T_weight, .inl (cI, 11700, .inl T_weight)), (a_T_toldBefore, .inl (cI, 11700, .inl o.2.1)), (a_T_told, .inl (cI, 11700, .inl o.2.2))] → va_S A s.heap H locs → lv_has ls 4 [(1, .int o.1), (0, .ref a_T)] → W p l e ({ frames := 1, cells := 0, slots := 0, locals := 21 }) s m args below meth c H locs 0 0 Q (F0 m 119 ls [])) → W p l e ({ frames := 1, cells := 0, slots := 0, locals := 21 }) s m args below meth c H locs 0 0 Q (F0 m 9 ls []) := by
  intro k
  induction k with
  | zero =>
    intro v1 T_toldBefore T_told o H locs ls hf
    exact absurd hf (by simp [f_Tree_tell_L9])
  | succ k ih =>
    intro v1 T_toldBefore T_told o H locs ls hf hP hD hS hl kk
    rw [f_Tree_tell_L9] at hf
    refine lv_iload_n hx hb d_Tree_tell_9 rfl (lv_at hl 0 rfl) ?_
    refine lv_aload_n hx hb d_Tree_tell_10 rfl (lv_at hl 1 rfl) ?_
    refine va_get (D := (dC, dI)) (ci := 4) (v := .int T_size) (C := "SyntaxTrees$Tree") (T := F_Tree) (N := 15) hx hb hts (fun w h => List.mem_cons_of_mem _ (in_Tree w h)) hown hK.1 hP 2 rfl rfl 14 (by decide +kernel) (hts _ (List.mem_cons_of_mem _ m_161)) (fun _ h9 => h9) rfl d_Tree_tell_11 ?_
    refine lv_icmp_ge (tgt := 119) hx hb d_Tree_tell_14 (by decide +kernel) (fun c1 => ?_) (fun c1 => ?_)
    · have hf := x_pos c1 hf
      cases hf
      exact kk _ _ ls hP hD hS (lv_sub hl [0, 1] rfl)
    · have hf := x_neg c1 hf
      refine lv_aload_n hx hb d_Tree_tell_17 rfl (lv_at hl 1 rfl) ?_
      refine va_get (D := (dC, dI)) (ci := 4) (v := .ref a_T_toldBefore) (C := "SyntaxTrees$Tree") (T := F_Tree) (N := 15) hx hb hts (fun w h => List.mem_cons_of_mem _ (in_Tree w h)) hown hK.1 hP 2 rfl rfl 11 (by decide +kernel) (hts _ (List.mem_cons_of_mem _ m_158)) (fun _ h9 => h9) rfl d_Tree_tell_18 ?_
      refine lv_iload_n hx hb d_Tree_tell_21 rfl (lv_at hl 0 rfl) ?_
      obtain ⟨h2, hf⟩ := x_gd hf
      refine va_iald hx hb hK.1 hP 8 0 rfl rfl h2 d_Tree_tell_22 ?_
      refine lv_istore_n (lv' := [(2, .int (T_toldBefore v1.toNatClampNeg)), (1, .int v1), (0, .ref a_T)]) hx hb d_Tree_tell_23 rfl hl (by decide +kernel) rfl (fun ls hl => ?_)
      refine lv_iconst (v := (0 : Int32)) hx hb d_Tree_tell_24 (by decide +kernel) ?_
      refine lv_istore_n (lv' := [(3, .int (0 : Int32)), (2, .int (T_toldBefore v1.toNatClampNeg)), (1, .int v1), (0, .ref a_T)]) hx hb d_Tree_tell_25 rfl hl (by decide +kernel) rfl (fun ls hl => ?_)
      obtain ⟨x3, hx3, hf⟩ := x_bd hf
      refine w_Tree_tell_L26 n v1 M_length M_row T_size T_ruleOf T_startOf T_firstPart T_partCount T_weight T_told hx hb hml hown hts hK hA n (0 : Int32) (T_toldBefore v1.toNatClampNeg) T_toldBefore x3 _ _ ls hx3 hP hD hS (lv_sub hl [0, 1, 2, 3] rfl) (fun H locs ls hP hD hS hl => ?_)
      refine lv_aload_n hx hb d_Tree_tell_72 rfl (lv_at hl 3 rfl) ?_
      refine va_get (D := (dC, dI)) (ci := 4) (v := .ref a_T_told) (C := "SyntaxTrees$Tree") (T := F_Tree) (N := 15) hx hb hts (fun w h => List.mem_cons_of_mem _ (in_Tree w h)) hown hK.1 hP 2 rfl rfl 12 (by decide +kernel) (hts _ (List.mem_cons_of_mem _ m_159)) (fun _ h9 => h9) rfl d_Tree_tell_73 ?_
      refine lv_iload_n hx hb d_Tree_tell_76 rfl (lv_at hl 1 rfl) ?_
      refine lv_aload_n hx hb d_Tree_tell_77 rfl (lv_at hl 3 rfl) ?_
      refine va_get (D := (dC, dI)) (ci := 4) (v := .ref a_T_ruleOf) (C := "SyntaxTrees$Tree") (T := F_Tree) (N := 15) hx hb hts (fun w h => List.mem_cons_of_mem _ (in_Tree w h)) hown hK.1 hP 2 rfl rfl 4 (by decide +kernel) (hts _ (List.mem_cons_of_mem _ m_151)) (fun _ h9 => h9) rfl d_Tree_tell_78 ?_
      refine lv_iload_n hx hb d_Tree_tell_81 rfl (lv_at hl 2 rfl) ?_
      obtain ⟨h4, hf⟩ := x_gd hf
      refine va_iald hx hb hK.1 hP 3 0 rfl rfl h4 d_Tree_tell_82 ?_
      refine lv_iconst (v := (-1 : Int32)) hx hb d_Tree_tell_83 (by decide +kernel) ?_
      refine lv_icmp_ne (tgt := 106) hx hb d_Tree_tell_84 (by decide +kernel) (fun c5 => ?_) (fun c5 => ?_)
      · have hf := x_neg c5 hf
        refine lv_aload_n hx hb d_Tree_tell_106 rfl (lv_at hl 3 rfl) ?_
        refine va_get (D := (dC, dI)) (ci := 4) (v := .ref a_T_ruleOf) (C := "SyntaxTrees$Tree") (T := F_Tree) (N := 15) hx hb hts (fun w h => List.mem_cons_of_mem _ (in_Tree w h)) hown hK.1 hP 2 rfl rfl 4 (by decide +kernel) (hts _ (List.mem_cons_of_mem _ m_151)) (fun _ h9 => h9) rfl d_Tree_tell_107 ?_
        refine lv_iload_n hx hb d_Tree_tell_110 rfl (lv_at hl 2 rfl) ?_
        obtain ⟨h6, hf⟩ := x_gd hf
        refine va_iald hx hb hK.1 hP 3 0 rfl rfl h6 d_Tree_tell_111 ?_
        obtain ⟨h7, hf⟩ := x_gd hf
        refine x_iast (w1 := [(a_M, .inr (2, [.ref a_M_row, .int M_length])), (a_M_row, .inl (cI, 59, .inl M_row)), (a_T, .inr (4, [.ref a_S, .ref a_R, .ref a_C, .ref a_M, .ref a_T_ruleOf, .ref a_T_sortOf, .ref a_T_startOf, .ref a_T_endOf, .ref a_T_firstPart, .ref a_T_partCount, .ref a_T_weight, .ref a_T_toldBefore, .ref a_T_told, .ref a_T_rests, .int T_size])), (a_T_ruleOf, .inl (cI, 11700, .inl T_ruleOf)), (a_T_startOf, .inl (cI, 11700, .inl T_startOf)), (a_T_firstPart, .inl (cI, 11700, .inl T_firstPart)), (a_T_partCount, .inl (cI, 11700, .inl T_partCount)), (a_T_weight, .inl (cI, 11700, .inl T_weight)), (a_T_toldBefore, .inl (cI, 11700, .inl x3.2.2)), (a_T_told, .inl (cI, 11700, .inl (upd T_told x3.2.1.toNatClampNeg (T_ruleOf v1.toNatClampNeg))))]) hx hb hK.1 hP hD hS 9 0 rfl rfl h7 d_Tree_tell_112 rfl (fun H locs hP hD hS => ?_)
        refine lv_iinc (v := (v1 + (1 : Int32))) (lv' := [(1, .int (v1 + (1 : Int32))), (3, .int x3.1), (2, .int x3.2.1), (0, .ref a_T)]) hx hb d_Tree_tell_113 hl (k := 2) rfl rfl (by decide +kernel) rfl (fun ls hl => ?_)
        refine lv_goto (tgt := 9) hx hb d_Tree_tell_116 (by decide +kernel) ?_
        exact ih (v1 + (1 : Int32)) x3.2.2 (upd T_told x3.2.1.toNatClampNeg (T_ruleOf v1.toNatClampNeg)) o _ _ ls hf hP hD hS (lv_sub hl [0, 3] rfl) kk
      · have hf := x_pos c5 hf
        refine lv_bipush (v := (-2 : Int32)) hx hb d_Tree_tell_87 (by decide +kernel) ?_
        refine lv_aload_n hx hb d_Tree_tell_89 rfl (lv_at hl 3 rfl) ?_
        refine va_get (D := (dC, dI)) (ci := 4) (v := .ref a_M) (C := "SyntaxTrees$Tree") (T := F_Tree) (N := 15) hx hb hts (fun w h => List.mem_cons_of_mem _ (in_Tree w h)) hown hK.1 hP 2 rfl rfl 3 (by decide +kernel) (hts _ (List.mem_cons_of_mem _ m_150)) (fun _ h9 => h9) rfl d_Tree_tell_90 ?_
        refine lv_aload_n hx hb d_Tree_tell_93 rfl (lv_at hl 3 rfl) ?_
        refine va_get (D := (dC, dI)) (ci := 4) (v := .ref a_T_startOf) (C := "SyntaxTrees$Tree") (T := F_Tree) (N := 15) hx hb hts (fun w h => List.mem_cons_of_mem _ (in_Tree w h)) hown hK.1 hP 2 rfl rfl 6 (by decide +kernel) (hts _ (List.mem_cons_of_mem _ m_153)) (fun _ h9 => h9) rfl d_Tree_tell_94 ?_
        refine lv_iload_n hx hb d_Tree_tell_97 rfl (lv_at hl 2 rfl) ?_
        obtain ⟨h8, hf⟩ := x_gd hf
        refine va_iald hx hb hK.1 hP 4 0 rfl rfl h8 d_Tree_tell_98 ?_
        obtain ⟨x9, hx9, hf⟩ := x_bd hf
        refine x_rdiV (As := [.int (T_startOf v1.toNatClampNeg)]) (rest := [.int (-2 : Int32), .int x3.2.1, .ref a_T_told]) (wc := [(a_M, .inr (2, [.ref a_M_row, .int M_length])), (a_M_row, .inl (cI, 59, .inl M_row))]) ⟨hx, hb, hml, hown, hts⟩ (c_Row_symbolAt l dC dI cI cJ cB a_M a_M_row M_length M_row (T_startOf v1.toNatClampNeg) n x9 hx9) (cwV 1 hts (x_gV m_421 m_325 m_326 m_45 m_327) rfl rfl rfl hd_Row_symbolAt ⟨Nat.le_of_ble_eq_true rfl, Nat.le_of_ble_eq_true rfl⟩) hK hP [0, 1] rfl (ci := 2) (q0 := 0) rfl rfl rfl rfl hl.1 rfl (Nat.le_of_ble_eq_true rfl) d_Tree_tell_99 ⟨Nat.le_of_ble_eq_true rfl, Nat.le_of_ble_eq_true rfl⟩ ?_
        refine lv_isub hx hb d_Tree_tell_102 ?_
        refine lv_goto (tgt := 112) hx hb d_Tree_tell_103 (by decide +kernel) ?_
        obtain ⟨h10, hf⟩ := x_gd hf
        refine x_iast (w1 := [(a_M, .inr (2, [.ref a_M_row, .int M_length])), (a_M_row, .inl (cI, 59, .inl M_row)), (a_T, .inr (4, [.ref a_S, .ref a_R, .ref a_C, .ref a_M, .ref a_T_ruleOf, .ref a_T_sortOf, .ref a_T_startOf, .ref a_T_endOf, .ref a_T_firstPart, .ref a_T_partCount, .ref a_T_weight, .ref a_T_toldBefore, .ref a_T_told, .ref a_T_rests, .int T_size])), (a_T_ruleOf, .inl (cI, 11700, .inl T_ruleOf)), (a_T_startOf, .inl (cI, 11700, .inl T_startOf)), (a_T_firstPart, .inl (cI, 11700, .inl T_firstPart)), (a_T_partCount, .inl (cI, 11700, .inl T_partCount)), (a_T_weight, .inl (cI, 11700, .inl T_weight)), (a_T_toldBefore, .inl (cI, 11700, .inl x3.2.2)), (a_T_told, .inl (cI, 11700, .inl (upd T_told x3.2.1.toNatClampNeg ((-2 : Int32) - x9))))]) hx hb hK.1 hP hD hS 9 0 rfl rfl h10 d_Tree_tell_112 rfl (fun H locs hP hD hS => ?_)
        refine lv_iinc (v := (v1 + (1 : Int32))) (lv' := [(1, .int (v1 + (1 : Int32))), (3, .int x3.1), (2, .int x3.2.1), (0, .ref a_T)]) hx hb d_Tree_tell_113 hl (k := 2) rfl rfl (by decide +kernel) rfl (fun ls hl => ?_)
        refine lv_goto (tgt := 9) hx hb d_Tree_tell_116 (by decide +kernel) ?_
        exact ih (v1 + (1 : Int32)) x3.2.2 (upd T_told x3.2.1.toNatClampNeg ((-2 : Int32) - x9)) o _ _ ls hf hP hD hS (lv_sub hl [0, 3] rfl) kk
set_option maxHeartbeats 4000000 in
set_option maxRecDepth 100000 in
theorem c_Tree_tell (l : Launch) (dC : Nat → ClassId) (dI : Nat → Nat → Nat) (cI cJ cB : ClassId) (a_M a_M_row a_T a_S a_R a_C a_T_ruleOf a_T_sortOf a_T_startOf a_T_endOf a_T_firstPart a_T_partCount a_T_weight a_T_toldBefore a_T_told a_T_rests : Nat)  (M_length : Int32) (M_row : Nat → Int32) (T_size : Int32) (T_ruleOf : Nat → Int32) (T_startOf : Nat → Int32) (T_firstPart : Nat → Int32) (T_partCount : Nat → Int32) (T_weight : Nat → Int32) (T_toldBefore : Nat → Int32) (T_told : Nat → Int32)  (sz : Nat) (n : Nat) (o : (Nat → Int32) × (Nat → Int32)) (hf : f_Tree_tell n M_length M_row T_size T_ruleOf T_startOf T_firstPart T_partCount T_weight T_toldBefore T_told = some o) : Met l y_Tree_tell w_Tree_tell ({ frames := 1, cells := 0, slots := 0, locals := 21 }) (va_Pc [.ref a_T] (fun U => U.heap.size = sz ∧ va_P (dC, dI) vwCl [(a_M, .inr (2, [.ref a_M_row, .int M_length])), (a_M_row, .inl (cI, 59, .inl M_row)), (a_T, .inr (4, [.ref a_S, .ref a_R, .ref a_C, .ref a_M, .ref a_T_ruleOf, .ref a_T_sortOf, .ref a_T_startOf, .ref a_T_endOf, .ref a_T_firstPart, .ref a_T_partCount, .ref a_T_weight, .ref a_T_toldBefore, .ref a_T_told, .ref a_T_rests, .int T_size])), (a_T_ruleOf, .inl (cI, 11700, .inl T_ruleOf)), (a_T_startOf, .inl (cI, 11700, .inl T_startOf)), (a_T_firstPart, .inl (cI, 11700, .inl T_firstPart)), (a_T_partCount, .inl (cI, 11700, .inl T_partCount)), (a_T_weight, .inl (cI, 11700, .inl T_weight)), (a_T_toldBefore, .inl (cI, 11700, .inl T_toldBefore)), (a_T_told, .inl (cI, 11700, .inl T_told))] U.heap ∧ x_K (dC, dI) [(cI, .int), (cJ, .long), (cB, .byte)] U ∧ va_D (fun _ => True) [(a_M, .inr (2, [.ref a_M_row, .int M_length])), (a_M_row, .inl (cI, 59, .inl M_row)), (a_T, .inr (4, [.ref a_S, .ref a_R, .ref a_C, .ref a_M, .ref a_T_ruleOf, .ref a_T_sortOf, .ref a_T_startOf, .ref a_T_endOf, .ref a_T_firstPart, .ref a_T_partCount, .ref a_T_weight, .ref a_T_toldBefore, .ref a_T_told, .ref a_T_rests, .int T_size])), (a_T_ruleOf, .inl (cI, 11700, .inl T_ruleOf)), (a_T_startOf, .inl (cI, 11700, .inl T_startOf)), (a_T_firstPart, .inl (cI, 11700, .inl T_firstPart)), (a_T_partCount, .inl (cI, 11700, .inl T_partCount)), (a_T_weight, .inl (cI, 11700, .inl T_weight)), (a_T_toldBefore, .inl (cI, 11700, .inl T_toldBefore)), (a_T_told, .inl (cI, 11700, .inl T_told))])) (va_Qv (fun (_ : Unit) => True) (fun _ t => va_P (dC, dI) vwCl [(a_M, .inr (2, [.ref a_M_row, .int M_length])), (a_M_row, .inl (cI, 59, .inl M_row)), (a_T, .inr (4, [.ref a_S, .ref a_R, .ref a_C, .ref a_M, .ref a_T_ruleOf, .ref a_T_sortOf, .ref a_T_startOf, .ref a_T_endOf, .ref a_T_firstPart, .ref a_T_partCount, .ref a_T_weight, .ref a_T_toldBefore, .ref a_T_told, .ref a_T_rests, .int T_size])), (a_T_ruleOf, .inl (cI, 11700, .inl T_ruleOf)), (a_T_startOf, .inl (cI, 11700, .inl T_startOf)), (a_T_firstPart, .inl (cI, 11700, .inl T_firstPart)), (a_T_partCount, .inl (cI, 11700, .inl T_partCount)), (a_T_weight, .inl (cI, 11700, .inl T_weight)), (a_T_toldBefore, .inl (cI, 11700, .inl o.1)), (a_T_told, .inl (cI, 11700, .inl o.2))] t.heap ∧ va_D (va_A [(a_M, .inr (2, [.ref a_M_row, .int M_length])), (a_M_row, .inl (cI, 59, .inl M_row)), (a_T, .inr (4, [.ref a_S, .ref a_R, .ref a_C, .ref a_M, .ref a_T_ruleOf, .ref a_T_sortOf, .ref a_T_startOf, .ref a_T_endOf, .ref a_T_firstPart, .ref a_T_partCount, .ref a_T_weight, .ref a_T_toldBefore, .ref a_T_told, .ref a_T_rests, .int T_size])), (a_T_ruleOf, .inl (cI, 11700, .inl T_ruleOf)), (a_T_startOf, .inl (cI, 11700, .inl T_startOf)), (a_T_firstPart, .inl (cI, 11700, .inl T_firstPart)), (a_T_partCount, .inl (cI, 11700, .inl T_partCount)), (a_T_weight, .inl (cI, 11700, .inl T_weight)), (a_T_toldBefore, .inl (cI, 11700, .inl T_toldBefore)), (a_T_told, .inl (cI, 11700, .inl T_told))] sz) [(a_M, .inr (2, [.ref a_M_row, .int M_length])), (a_M_row, .inl (cI, 59, .inl M_row)), (a_T, .inr (4, [.ref a_S, .ref a_R, .ref a_C, .ref a_M, .ref a_T_ruleOf, .ref a_T_sortOf, .ref a_T_startOf, .ref a_T_endOf, .ref a_T_firstPart, .ref a_T_partCount, .ref a_T_weight, .ref a_T_toldBefore, .ref a_T_told, .ref a_T_rests, .int T_size])), (a_T_ruleOf, .inl (cI, 11700, .inl T_ruleOf)), (a_T_startOf, .inl (cI, 11700, .inl T_startOf)), (a_T_firstPart, .inl (cI, 11700, .inl T_firstPart)), (a_T_partCount, .inl (cI, 11700, .inl T_partCount)), (a_T_weight, .inl (cI, 11700, .inl T_weight)), (a_T_toldBefore, .inl (cI, 11700, .inl o.1)), (a_T_told, .inl (cI, 11700, .inl o.2))]) (va_A [(a_M, .inr (2, [.ref a_M_row, .int M_length])), (a_M_row, .inl (cI, 59, .inl M_row)), (a_T, .inr (4, [.ref a_S, .ref a_R, .ref a_C, .ref a_M, .ref a_T_ruleOf, .ref a_T_sortOf, .ref a_T_startOf, .ref a_T_endOf, .ref a_T_firstPart, .ref a_T_partCount, .ref a_T_weight, .ref a_T_toldBefore, .ref a_T_told, .ref a_T_rests, .int T_size])), (a_T_ruleOf, .inl (cI, 11700, .inl T_ruleOf)), (a_T_startOf, .inl (cI, 11700, .inl T_startOf)), (a_T_firstPart, .inl (cI, 11700, .inl T_firstPart)), (a_T_partCount, .inl (cI, 11700, .inl T_partCount)), (a_T_weight, .inl (cI, 11700, .inl T_weight)), (a_T_toldBefore, .inl (cI, 11700, .inl T_toldBefore)), (a_T_told, .inl (cI, 11700, .inl T_told))] sz)) 0 0 (va_A [(a_M, .inr (2, [.ref a_M_row, .int M_length])), (a_M_row, .inl (cI, 59, .inl M_row)), (a_T, .inr (4, [.ref a_S, .ref a_R, .ref a_C, .ref a_M, .ref a_T_ruleOf, .ref a_T_sortOf, .ref a_T_startOf, .ref a_T_endOf, .ref a_T_firstPart, .ref a_T_partCount, .ref a_T_weight, .ref a_T_toldBefore, .ref a_T_told, .ref a_T_rests, .int T_size])), (a_T_ruleOf, .inl (cI, 11700, .inl T_ruleOf)), (a_T_startOf, .inl (cI, 11700, .inl T_startOf)), (a_T_firstPart, .inl (cI, 11700, .inl T_firstPart)), (a_T_partCount, .inl (cI, 11700, .inl T_partCount)), (a_T_weight, .inl (cI, 11700, .inl T_weight)), (a_T_toldBefore, .inl (cI, 11700, .inl T_toldBefore)), (a_T_told, .inl (cI, 11700, .inl T_told))] sz) := by
  refine Met.ofW (cc := b_Tree_tell) (maxL := 4) (ret := none) (by decide +kernel) rfl ?_
  intro p e s m args below meth c s₁ B hml hv
  obtain ⟨rfl, hsz, hP, hK, hD0⟩ := hv
  have hx := B.exec
  have hb := B.bytes
  have hr := B.returns
  have hts := atoms_spec (ws := w_Tree_tell) B.pre
  have hown : s.vm.findClass "SyntaxTrees$Tree" = some m.cls := findClass_of_methodNamed B.named
  have hlocks := B.notSynchronized
  subst hsz
  have hD := hD0.self (sz := s.heap.size)
  generalize hAe : va_A [(a_M, .inr (2, [.ref a_M_row, .int M_length])), (a_M_row, .inl (cI, 59, .inl M_row)), (a_T, .inr (4, [.ref a_S, .ref a_R, .ref a_C, .ref a_M, .ref a_T_ruleOf, .ref a_T_sortOf, .ref a_T_startOf, .ref a_T_endOf, .ref a_T_firstPart, .ref a_T_partCount, .ref a_T_weight, .ref a_T_toldBefore, .ref a_T_told, .ref a_T_rests, .int T_size])), (a_T_ruleOf, .inl (cI, 11700, .inl T_ruleOf)), (a_T_startOf, .inl (cI, 11700, .inl T_startOf)), (a_T_firstPart, .inl (cI, 11700, .inl T_firstPart)), (a_T_partCount, .inl (cI, 11700, .inl T_partCount)), (a_T_weight, .inl (cI, 11700, .inl T_weight)), (a_T_toldBefore, .inl (cI, 11700, .inl T_toldBefore)), (a_T_told, .inl (cI, 11700, .inl T_told))] s.heap.size = A at hD ⊢
  have hA : ∀ q : Nat, s.heap.size ≤ q → A q := fun q h => by rw [← hAe]; exact Or.inr h
  have hS : va_S A s.heap s.heap [] := va_S.rf
  have hP : va_P (dC, dI) vwCl [(a_M, .inr (2, [.ref a_M_row, .int M_length])), (a_M_row, .inl (cI, 59, .inl M_row)), (a_T, .inr (4, [.ref a_S, .ref a_R, .ref a_C, .ref a_M, .ref a_T_ruleOf, .ref a_T_sortOf, .ref a_T_startOf, .ref a_T_endOf, .ref a_T_firstPart, .ref a_T_partCount, .ref a_T_weight, .ref a_T_toldBefore, .ref a_T_told, .ref a_T_rests, .int T_size])), (a_T_ruleOf, .inl (cI, 11700, .inl T_ruleOf)), (a_T_startOf, .inl (cI, 11700, .inl T_startOf)), (a_T_firstPart, .inl (cI, 11700, .inl T_firstPart)), (a_T_partCount, .inl (cI, 11700, .inl T_partCount)), (a_T_weight, .inl (cI, 11700, .inl T_weight)), (a_T_toldBefore, .inl (cI, 11700, .inl T_toldBefore)), (a_T_told, .inl (cI, 11700, .inl T_told))] s.heap := hP
  have hl := lv_entry ([.ref a_T]) (n := 4) (Nat.le_of_ble_eq_true rfl)
  rw [lg_entry_eq]
  generalize (lg_sl ([.ref a_T]) ++ List.replicate (4 - (lg_sl ([.ref a_T])).length) Slot.unset).toArray = ls at hl ⊢
  have hl : lv_has ls 4 [(0, .ref a_T)] := hl
  refine x_Q (fun Q hQ => ?_)
  unfold f_Tree_tell at hf
  refine lv_aload_n hx hb d_Tree_tell_0 rfl (lv_at hl 0 rfl) ?_
  refine va_get (D := (dC, dI)) (ci := 4) (v := .ref a_T_toldBefore) (C := "SyntaxTrees$Tree") (T := F_Tree) (N := 15) hx hb hts (fun w h => List.mem_cons_of_mem _ (in_Tree w h)) hown hK.1 hP 2 rfl rfl 11 (by decide +kernel) (hts _ (List.mem_cons_of_mem _ m_158)) (fun _ h9 => h9) rfl d_Tree_tell_1 ?_
  refine lv_iconst (v := (0 : Int32)) hx hb d_Tree_tell_4 (by decide +kernel) ?_
  refine lv_iconst (v := (0 : Int32)) hx hb d_Tree_tell_5 (by decide +kernel) ?_
  obtain ⟨h1, hf⟩ := x_gd hf
  refine x_iast (w1 := [(a_M, .inr (2, [.ref a_M_row, .int M_length])), (a_M_row, .inl (cI, 59, .inl M_row)), (a_T, .inr (4, [.ref a_S, .ref a_R, .ref a_C, .ref a_M, .ref a_T_ruleOf, .ref a_T_sortOf, .ref a_T_startOf, .ref a_T_endOf, .ref a_T_firstPart, .ref a_T_partCount, .ref a_T_weight, .ref a_T_toldBefore, .ref a_T_told, .ref a_T_rests, .int T_size])), (a_T_ruleOf, .inl (cI, 11700, .inl T_ruleOf)), (a_T_startOf, .inl (cI, 11700, .inl T_startOf)), (a_T_firstPart, .inl (cI, 11700, .inl T_firstPart)), (a_T_partCount, .inl (cI, 11700, .inl T_partCount)), (a_T_weight, .inl (cI, 11700, .inl T_weight)), (a_T_toldBefore, .inl (cI, 11700, .inl (upd T_toldBefore (0 : Int32).toNatClampNeg (0 : Int32)))), (a_T_told, .inl (cI, 11700, .inl T_told))]) hx hb hK.1 hP hD hS 8 0 rfl rfl h1 d_Tree_tell_6 rfl (fun H locs hP hD hS => ?_)
  refine lv_iconst (v := (0 : Int32)) hx hb d_Tree_tell_7 (by decide +kernel) ?_
  refine lv_istore_n (lv' := [(1, .int (0 : Int32)), (0, .ref a_T)]) hx hb d_Tree_tell_8 rfl hl (by decide +kernel) rfl (fun ls hl => ?_)
  obtain ⟨x2, hx2, hf⟩ := x_bd hf
  refine w_Tree_tell_L9 n M_length M_row T_size T_ruleOf T_startOf T_firstPart T_partCount T_weight hx hb hml hown hts hK hA n (0 : Int32) (upd T_toldBefore (0 : Int32).toNatClampNeg (0 : Int32)) T_told x2 _ _ ls hx2 hP hD hS (lv_sub hl [0, 1] rfl) (fun H locs ls hP hD hS hl => ?_)
  cases hf
  subst hQ
  exact W.vret hx hb hr (fun t ht _ => ⟨⟨(), rfl, trivial, by rw [ht]; exact hP, hD⟩, hS.F ht⟩) hS.2.2 d_Tree_tell_119
