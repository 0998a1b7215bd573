set_option maxHeartbeats 4000000 in
set_option maxRecDepth 100000 in
theorem c_Rules_closed (l : Launch) (dC : Nat → ClassId) (dI : Nat → Nat → Nat) (cI cJ cB : ClassId) (a_R a_S a_R_sorts a_R_all a_R_firsts a_R_newestWraps a_R_olderWraps : Nat)  (R_closed : Int32) (R_used : Int32) (R_isOpen : Int32)  (n : Nat) (o : Int32) (hf : f_Rules_closed n R_closed = some o) : Met l y_Rules_closed w_Rules_closed ({ frames := 0, cells := 0, slots := 0, locals := 0 }) (va_Pc [.ref a_R] (fun U => va_P (dC, dI) vwCl [(a_R, .inr (1, [.ref a_S, .ref a_R_sorts, .ref a_R_all, .ref a_R_firsts, .ref a_R_newestWraps, .ref a_R_olderWraps, .int R_closed, .int R_used, .int R_isOpen]))] U.heap ∧ x_K (dC, dI) [(cI, .int), (cJ, .long), (cB, .byte)] U)) (QcRead o) 0 0 (fun _ => False) := by
  refine Met.ofW (cc := b_Rules_closed) (maxL := 1) (ret := (some .int)) (by decide +kernel) rfl ?_
  intro p e s m args below meth c s₁ B hml hv
  obtain ⟨rfl, hP, hK⟩ := hv
  have hx := B.exec
  have hb := B.bytes
  have hr := B.returns
  have hts := atoms_spec (ws := w_Rules_closed) B.pre
  have hown : s.vm.findClass "SyntaxTrees$Rules" = some m.cls := findClass_of_methodNamed B.named
  have hlocks := B.notSynchronized
  have hP : va_P (dC, dI) vwCl [(a_R, .inr (1, [.ref a_S, .ref a_R_sorts, .ref a_R_all, .ref a_R_firsts, .ref a_R_newestWraps, .ref a_R_olderWraps, .int R_closed, .int R_used, .int R_isOpen]))] s.heap := hP
  have hl := lv_entry ([.ref a_R]) (n := 1) (Nat.le_of_ble_eq_true rfl)
  rw [lg_entry_eq]
  generalize (lg_sl ([.ref a_R]) ++ List.replicate (1 - (lg_sl ([.ref a_R])).length) Slot.unset).toArray = ls at hl ⊢
  have hl : lv_has ls 1 [(0, .ref a_R)] := hl
  refine x_Q (fun Q hQ => ?_)
  unfold f_Rules_closed at hf
  refine lv_aload_n hx hb d_Rules_closed_0 rfl (lv_at hl 0 rfl) ?_
  refine va_get (D := (dC, dI)) (ci := 1) (v := .int R_closed) (C := "SyntaxTrees$Rules") (T := F_Rules) (N := 9) hx hb hts (fun w h => List.mem_cons_of_mem _ (in_Rules w h)) hown hK.1 hP 0 rfl rfl 6 (by decide +kernel) (hts _ (List.mem_cons_of_mem _ m_86)) (fun _ h9 => h9) rfl d_Rules_closed_1 ?_
  cases hf
  subst hQ
  exact W.iret hx hb hr (fun t ht _ => ⟨rfl, ht⟩) (fun _ h => absurd h List.not_mem_nil) d_Rules_closed_4
set_option maxHeartbeats 4000000 in
set_option maxRecDepth 100000 in
theorem c_Rules_used (l : Launch) (dC : Nat → ClassId) (dI : Nat → Nat → Nat) (cI cJ cB : ClassId) (a_R a_S a_R_sorts a_R_all a_R_firsts a_R_newestWraps a_R_olderWraps : Nat)  (R_closed : Int32) (R_used : Int32) (R_isOpen : Int32)  (n : Nat) (o : Int32) (hf : f_Rules_used n R_used = some o) : Met l y_Rules_used w_Rules_used ({ frames := 0, cells := 0, slots := 0, locals := 0 }) (va_Pc [.ref a_R] (fun U => va_P (dC, dI) vwCl [(a_R, .inr (1, [.ref a_S, .ref a_R_sorts, .ref a_R_all, .ref a_R_firsts, .ref a_R_newestWraps, .ref a_R_olderWraps, .int R_closed, .int R_used, .int R_isOpen]))] U.heap ∧ x_K (dC, dI) [(cI, .int), (cJ, .long), (cB, .byte)] U)) (QcRead o) 0 0 (fun _ => False) := by
  refine Met.ofW (cc := b_Rules_used) (maxL := 1) (ret := (some .int)) (by decide +kernel) rfl ?_
  intro p e s m args below meth c s₁ B hml hv
  obtain ⟨rfl, hP, hK⟩ := hv
  have hx := B.exec
  have hb := B.bytes
  have hr := B.returns
  have hts := atoms_spec (ws := w_Rules_used) B.pre
  have hown : s.vm.findClass "SyntaxTrees$Rules" = some m.cls := findClass_of_methodNamed B.named
  have hlocks := B.notSynchronized
  have hP : va_P (dC, dI) vwCl [(a_R, .inr (1, [.ref a_S, .ref a_R_sorts, .ref a_R_all, .ref a_R_firsts, .ref a_R_newestWraps, .ref a_R_olderWraps, .int R_closed, .int R_used, .int R_isOpen]))] s.heap := hP
  have hl := lv_entry ([.ref a_R]) (n := 1) (Nat.le_of_ble_eq_true rfl)
  rw [lg_entry_eq]
  generalize (lg_sl ([.ref a_R]) ++ List.replicate (1 - (lg_sl ([.ref a_R])).length) Slot.unset).toArray = ls at hl ⊢
  have hl : lv_has ls 1 [(0, .ref a_R)] := hl
  refine x_Q (fun Q hQ => ?_)
  unfold f_Rules_used at hf
  refine lv_aload_n hx hb d_Rules_used_0 rfl (lv_at hl 0 rfl) ?_
  refine va_get (D := (dC, dI)) (ci := 1) (v := .int R_used) (C := "SyntaxTrees$Rules") (T := F_Rules) (N := 9) hx hb hts (fun w h => List.mem_cons_of_mem _ (in_Rules w h)) hown hK.1 hP 0 rfl rfl 7 (by decide +kernel) (hts _ (List.mem_cons_of_mem _ m_87)) (fun _ h9 => h9) rfl d_Rules_used_1 ?_
  cases hf
  subst hQ
  exact W.iret hx hb hr (fun t ht _ => ⟨rfl, ht⟩) (fun _ h => absurd h List.not_mem_nil) d_Rules_used_4
set_option maxHeartbeats 4000000 in
set_option maxRecDepth 100000 in
theorem c_Rules_below (l : Launch) (dC : Nat → ClassId) (dI : Nat → Nat → Nat) (cI cJ cB : ClassId) (a_R a_S a_R_sorts a_R_all a_R_firsts a_R_newestWraps a_R_olderWraps : Nat)  (R_closed : Int32) (R_used : Int32) (R_isOpen : Int32) (p1 : Int32) (n : Nat) (o : Int32) (hf : f_Rules_below n R_closed p1 = some o) : Met l y_Rules_below w_Rules_below ({ frames := 1, cells := 0, slots := 0, locals := 14 }) (va_Pc [.ref a_R, .int p1] (fun U => va_P (dC, dI) vwCl [(a_R, .inr (1, [.ref a_S, .ref a_R_sorts, .ref a_R_all, .ref a_R_firsts, .ref a_R_newestWraps, .ref a_R_olderWraps, .int R_closed, .int R_used, .int R_isOpen]))] U.heap ∧ x_K (dC, dI) [(cI, .int), (cJ, .long), (cB, .byte)] U)) (QcRead o) 0 0 (fun _ => False) := by
  refine Met.ofW (cc := b_Rules_below) (maxL := 2) (ret := (some .int)) (by decide +kernel) rfl ?_
  intro p e s m args below meth c s₁ B hml hv
  obtain ⟨rfl, hP, hK⟩ := hv
  have hx := B.exec
  have hb := B.bytes
  have hr := B.returns
  have hts := atoms_spec (ws := w_Rules_below) B.pre
  have hown : s.vm.findClass "SyntaxTrees$Rules" = some m.cls := findClass_of_methodNamed B.named
  have hlocks := B.notSynchronized
  have hP : va_P (dC, dI) vwCl [(a_R, .inr (1, [.ref a_S, .ref a_R_sorts, .ref a_R_all, .ref a_R_firsts, .ref a_R_newestWraps, .ref a_R_olderWraps, .int R_closed, .int R_used, .int R_isOpen]))] s.heap := hP
  have hl := lv_entry ([.ref a_R, .int p1]) (n := 2) (Nat.le_of_ble_eq_true rfl)
  rw [lg_entry_eq]
  generalize (lg_sl ([.ref a_R, .int p1]) ++ List.replicate (2 - (lg_sl ([.ref a_R, .int p1])).length) Slot.unset).toArray = ls at hl ⊢
  have hl : lv_has ls 2 [(0, .ref a_R), (1, .int p1)] := hl
  refine x_Q (fun Q hQ => ?_)
  unfold f_Rules_below at hf
  refine lv_iconst (v := (0 : Int32)) hx hb d_Rules_below_0 (by decide +kernel) ?_
  refine lv_iload_n hx hb d_Rules_below_1 rfl (lv_at hl 1 rfl) ?_
  refine lv_aload_n hx hb d_Rules_below_2 rfl (lv_at hl 0 rfl) ?_
  refine va_get (D := (dC, dI)) (ci := 1) (v := .int R_closed) (C := "SyntaxTrees$Rules") (T := F_Rules) (N := 9) hx hb hts (fun w h => List.mem_cons_of_mem _ (in_Rules w h)) hown hK.1 hP 0 rfl rfl 6 (by decide +kernel) (hts _ (List.mem_cons_of_mem _ m_86)) (fun _ h9 => h9) rfl d_Rules_below_3 ?_
  refine va_mmin hx hb (by rw [hml]; exact hl.1.symm) hown (hts _ (List.mem_cons_of_mem _ m_289)) (hts _ (List.mem_cons_of_mem _ m_290)) (hts _ (List.mem_cons_of_mem _ m_49)) (hts _ (List.mem_cons_of_mem _ m_291)) (Nat.le_of_ble_eq_true rfl) (Nat.le_of_ble_eq_true rfl) (Nat.le_of_ble_eq_true rfl) (Nat.le_of_ble_eq_true rfl) d_Rules_below_6 ?_
  refine va_mmax hx hb (by rw [hml]; exact hl.1.symm) hown (hts _ (List.mem_cons_of_mem _ m_292)) (hts _ (List.mem_cons_of_mem _ m_293)) (hts _ (List.mem_cons_of_mem _ m_49)) (hts _ (List.mem_cons_of_mem _ m_294)) (Nat.le_of_ble_eq_true rfl) (Nat.le_of_ble_eq_true rfl) (Nat.le_of_ble_eq_true rfl) (Nat.le_of_ble_eq_true rfl) d_Rules_below_9 ?_
  cases hf
  subst hQ
  exact W.iret hx hb hr (fun t ht _ => ⟨rfl, ht⟩) (fun _ h => absurd h List.not_mem_nil) d_Rules_below_12
set_option maxHeartbeats 4000000 in
set_option maxRecDepth 100000 in
theorem c_Rules_isClosed (l : Launch) (dC : Nat → ClassId) (dI : Nat → Nat → Nat) (cI cJ cB : ClassId) (a_R a_S a_R_sorts a_R_all a_R_firsts a_R_newestWraps a_R_olderWraps : Nat)  (R_closed : Int32) (R_used : Int32) (R_isOpen : Int32) (p1 : Int32) (n : Nat) (o : Int32) (hf : f_Rules_isClosed n R_closed p1 = some o) : Met l y_Rules_isClosed w_Rules_isClosed ({ frames := 0, cells := 0, slots := 0, locals := 0 }) (va_Pc [.ref a_R, .int p1] (fun U => va_P (dC, dI) vwCl [(a_R, .inr (1, [.ref a_S, .ref a_R_sorts, .ref a_R_all, .ref a_R_firsts, .ref a_R_newestWraps, .ref a_R_olderWraps, .int R_closed, .int R_used, .int R_isOpen]))] U.heap ∧ x_K (dC, dI) [(cI, .int), (cJ, .long), (cB, .byte)] U)) (QcRead o) 0 0 (fun _ => False) := by
  refine Met.ofW (cc := b_Rules_isClosed) (maxL := 2) (ret := (some .boolean)) (by decide +kernel) rfl ?_
  intro p e s m args below meth c s₁ B hml hv
  obtain ⟨rfl, hP, hK⟩ := hv
  have hx := B.exec
  have hb := B.bytes
  have hr := B.returns
  have hts := atoms_spec (ws := w_Rules_isClosed) B.pre
  have hown : s.vm.findClass "SyntaxTrees$Rules" = some m.cls := findClass_of_methodNamed B.named
  have hlocks := B.notSynchronized
  have hP : va_P (dC, dI) vwCl [(a_R, .inr (1, [.ref a_S, .ref a_R_sorts, .ref a_R_all, .ref a_R_firsts, .ref a_R_newestWraps, .ref a_R_olderWraps, .int R_closed, .int R_used, .int R_isOpen]))] s.heap := hP
  have hl := lv_entry ([.ref a_R, .int p1]) (n := 2) (Nat.le_of_ble_eq_true rfl)
  rw [lg_entry_eq]
  generalize (lg_sl ([.ref a_R, .int p1]) ++ List.replicate (2 - (lg_sl ([.ref a_R, .int p1])).length) Slot.unset).toArray = ls at hl ⊢
  have hl : lv_has ls 2 [(0, .ref a_R), (1, .int p1)] := hl
  refine x_Q (fun Q hQ => ?_)
  unfold f_Rules_isClosed at hf
  refine lv_iload_n hx hb d_Rules_isClosed_0 rfl (lv_at hl 1 rfl) ?_
  refine lv_if_lt (tgt := 16) hx hb d_Rules_isClosed_1 (by decide +kernel) (fun c1 => ?_) (fun c1 => ?_)
  · have hf := x_pos c1 hf
    refine lv_iconst (v := (0 : Int32)) hx hb d_Rules_isClosed_16 (by decide +kernel) ?_
    cases hf
    subst hQ
    exact W.zret hx hb hr rfl (fun t ht _ => ⟨rfl, ht⟩) (fun _ h => absurd h List.not_mem_nil) d_Rules_isClosed_17
  · have hf := x_neg c1 hf
    refine lv_iload_n hx hb d_Rules_isClosed_4 rfl (lv_at hl 1 rfl) ?_
    refine lv_aload_n hx hb d_Rules_isClosed_5 rfl (lv_at hl 0 rfl) ?_
    refine va_get (D := (dC, dI)) (ci := 1) (v := .int R_closed) (C := "SyntaxTrees$Rules") (T := F_Rules) (N := 9) hx hb hts (fun w h => List.mem_cons_of_mem _ (in_Rules w h)) hown hK.1 hP 0 rfl rfl 6 (by decide +kernel) (hts _ (List.mem_cons_of_mem _ m_86)) (fun _ h9 => h9) rfl d_Rules_isClosed_6 ?_
    refine lv_icmp_ge (tgt := 16) hx hb d_Rules_isClosed_9 (by decide +kernel) (fun c2 => ?_) (fun c2 => ?_)
    · have hf := x_pos c2 hf
      refine lv_iconst (v := (0 : Int32)) hx hb d_Rules_isClosed_16 (by decide +kernel) ?_
      cases hf
      subst hQ
      exact W.zret hx hb hr rfl (fun t ht _ => ⟨rfl, ht⟩) (fun _ h => absurd h List.not_mem_nil) d_Rules_isClosed_17
    · have hf := x_neg c2 hf
      refine lv_iconst (v := (1 : Int32)) hx hb d_Rules_isClosed_12 (by decide +kernel) ?_
      refine lv_goto (tgt := 17) hx hb d_Rules_isClosed_13 (by decide +kernel) ?_
      cases hf
      subst hQ
      exact W.zret hx hb hr rfl (fun t ht _ => ⟨rfl, ht⟩) (fun _ h => absurd h List.not_mem_nil) d_Rules_isClosed_17
set_option maxHeartbeats 4000000 in
set_option maxRecDepth 100000 in
theorem c_Rules_sortOf (l : Launch) (dC : Nat → ClassId) (dI : Nat → Nat → Nat) (cI cJ cB : ClassId) (a_R a_S a_R_sorts a_R_all a_R_firsts a_R_newestWraps a_R_olderWraps : Nat)  (R_closed : Int32) (R_used : Int32) (R_isOpen : Int32) (R_sorts : Nat → Int32) (p1 : Int32) (n : Nat) (o : Int32) (hf : f_Rules_sortOf n R_closed R_sorts p1 = some o) : Met l y_Rules_sortOf w_Rules_sortOf ({ frames := 1, cells := 0, slots := 0, locals := 21 }) (va_Pc [.ref a_R, .int p1] (fun U => va_P (dC, dI) vwCl [(a_R, .inr (1, [.ref a_S, .ref a_R_sorts, .ref a_R_all, .ref a_R_firsts, .ref a_R_newestWraps, .ref a_R_olderWraps, .int R_closed, .int R_used, .int R_isOpen])), (a_R_sorts, .inl (cI, 1500, .inl R_sorts))] U.heap ∧ x_K (dC, dI) [(cI, .int), (cJ, .long), (cB, .byte)] U)) (QcRead o) 0 0 (fun _ => False) := by
  refine Met.ofW (cc := b_Rules_sortOf) (maxL := 2) (ret := (some .int)) (by decide +kernel) rfl ?_
  intro p e s m args below meth c s₁ B hml hv
  obtain ⟨rfl, hP, hK⟩ := hv
  have hx := B.exec
  have hb := B.bytes
  have hr := B.returns
  have hts := atoms_spec (ws := w_Rules_sortOf) B.pre
  have hown : s.vm.findClass "SyntaxTrees$Rules" = some m.cls := findClass_of_methodNamed B.named
  have hlocks := B.notSynchronized
  have hP : va_P (dC, dI) vwCl [(a_R, .inr (1, [.ref a_S, .ref a_R_sorts, .ref a_R_all, .ref a_R_firsts, .ref a_R_newestWraps, .ref a_R_olderWraps, .int R_closed, .int R_used, .int R_isOpen])), (a_R_sorts, .inl (cI, 1500, .inl R_sorts))] s.heap := hP
  have hl := lv_entry ([.ref a_R, .int p1]) (n := 2) (Nat.le_of_ble_eq_true rfl)
  rw [lg_entry_eq]
  generalize (lg_sl ([.ref a_R, .int p1]) ++ List.replicate (2 - (lg_sl ([.ref a_R, .int p1])).length) Slot.unset).toArray = ls at hl ⊢
  have hl : lv_has ls 2 [(0, .ref a_R), (1, .int p1)] := hl
  refine x_Q (fun Q hQ => ?_)
  unfold f_Rules_sortOf at hf
  refine lv_aload_n hx hb d_Rules_sortOf_0 rfl (lv_at hl 0 rfl) ?_
  refine lv_iload_n hx hb d_Rules_sortOf_1 rfl (lv_at hl 1 rfl) ?_
  obtain ⟨x1, hx1, hf⟩ := x_bd hf
  refine x_rdiV (As := [.int p1]) (rest := []) (wc := [(a_R, .inr (1, [.ref a_S, .ref a_R_sorts, .ref a_R_all, .ref a_R_firsts, .ref a_R_newestWraps, .ref a_R_olderWraps, .int R_closed, .int R_used, .int R_isOpen]))]) ⟨hx, hb, hml, hown, hts⟩ (c_Rules_isClosed l dC dI cI cJ cB a_R a_S a_R_sorts a_R_all a_R_firsts a_R_newestWraps a_R_olderWraps R_closed R_used R_isOpen p1 n x1 hx1) (cwV 1 hts (x_gV m_344 m_345 m_346 m_44 m_347) rfl rfl rfl hd_Rules_isClosed ⟨Nat.le_of_ble_eq_true rfl, Nat.le_of_ble_eq_true rfl⟩) hK hP [0] rfl (ci := 1) (q0 := 0) rfl rfl rfl rfl hl.1 rfl (Nat.le_of_ble_eq_true rfl) d_Rules_sortOf_2 ⟨Nat.le_of_ble_eq_true rfl, Nat.le_of_ble_eq_true rfl⟩ ?_
  refine lv_if_eq (tgt := 17) hx hb d_Rules_sortOf_5 (by decide +kernel) (fun c2 => ?_) (fun c2 => ?_)
  · have hf := x_pos c2 hf
    refine lv_iconst (v := (-1 : Int32)) hx hb d_Rules_sortOf_17 (by decide +kernel) ?_
    cases hf
    subst hQ
    exact W.iret hx hb hr (fun t ht _ => ⟨rfl, ht⟩) (fun _ h => absurd h List.not_mem_nil) d_Rules_sortOf_18
  · have hf := x_neg c2 hf
    refine lv_aload_n hx hb d_Rules_sortOf_8 rfl (lv_at hl 0 rfl) ?_
    refine va_get (D := (dC, dI)) (ci := 1) (v := .ref a_R_sorts) (C := "SyntaxTrees$Rules") (T := F_Rules) (N := 9) hx hb hts (fun w h => List.mem_cons_of_mem _ (in_Rules w h)) hown hK.1 hP 0 rfl rfl 1 (by decide +kernel) (hts _ (List.mem_cons_of_mem _ m_81)) (fun _ h9 => h9) rfl d_Rules_sortOf_9 ?_
    refine lv_iload_n hx hb d_Rules_sortOf_12 rfl (lv_at hl 1 rfl) ?_
    obtain ⟨h3, hf⟩ := x_gd hf
    refine va_iald hx hb hK.1 hP 1 0 rfl rfl h3 d_Rules_sortOf_13 ?_
    refine lv_goto (tgt := 18) hx hb d_Rules_sortOf_14 (by decide +kernel) ?_
    cases hf
    subst hQ
    exact W.iret hx hb hr (fun t ht _ => ⟨rfl, ht⟩) (fun _ h => absurd h List.not_mem_nil) d_Rules_sortOf_18
set_option maxHeartbeats 4000000 in
set_option maxRecDepth 100000 in
theorem c_Rules_firstOf (l : Launch) (dC : Nat → ClassId) (dI : Nat → Nat → Nat) (cI cJ cB : ClassId) (a_R a_S a_R_sorts a_R_all a_R_firsts a_R_newestWraps a_R_olderWraps : Nat)  (R_closed : Int32) (R_used : Int32) (R_isOpen : Int32) (R_firsts : Nat → Int32) (p1 : Int32) (n : Nat) (o : Int32) (hf : f_Rules_firstOf n R_closed R_used R_firsts p1 = some o) : Met l y_Rules_firstOf w_Rules_firstOf ({ frames := 0, cells := 0, slots := 0, locals := 0 }) (va_Pc [.ref a_R, .int p1] (fun U => va_P (dC, dI) vwCl [(a_R, .inr (1, [.ref a_S, .ref a_R_sorts, .ref a_R_all, .ref a_R_firsts, .ref a_R_newestWraps, .ref a_R_olderWraps, .int R_closed, .int R_used, .int R_isOpen])), (a_R_firsts, .inl (cI, 1501, .inl R_firsts))] U.heap ∧ x_K (dC, dI) [(cI, .int), (cJ, .long), (cB, .byte)] U)) (QcRead o) 0 0 (fun _ => False) := by
  refine Met.ofW (cc := b_Rules_firstOf) (maxL := 2) (ret := (some .int)) (by decide +kernel) rfl ?_
  intro p e s m args below meth c s₁ B hml hv
  obtain ⟨rfl, hP, hK⟩ := hv
  have hx := B.exec
  have hb := B.bytes
  have hr := B.returns
  have hts := atoms_spec (ws := w_Rules_firstOf) B.pre
  have hown : s.vm.findClass "SyntaxTrees$Rules" = some m.cls := findClass_of_methodNamed B.named
  have hlocks := B.notSynchronized
  have hP : va_P (dC, dI) vwCl [(a_R, .inr (1, [.ref a_S, .ref a_R_sorts, .ref a_R_all, .ref a_R_firsts, .ref a_R_newestWraps, .ref a_R_olderWraps, .int R_closed, .int R_used, .int R_isOpen])), (a_R_firsts, .inl (cI, 1501, .inl R_firsts))] s.heap := hP
  have hl := lv_entry ([.ref a_R, .int p1]) (n := 2) (Nat.le_of_ble_eq_true rfl)
  rw [lg_entry_eq]
  generalize (lg_sl ([.ref a_R, .int p1]) ++ List.replicate (2 - (lg_sl ([.ref a_R, .int p1])).length) Slot.unset).toArray = ls at hl ⊢
  have hl : lv_has ls 2 [(0, .ref a_R), (1, .int p1)] := hl
  refine x_Q (fun Q hQ => ?_)
  unfold f_Rules_firstOf at hf
  refine lv_iload_n hx hb d_Rules_firstOf_0 rfl (lv_at hl 1 rfl) ?_
  refine lv_if_lt (tgt := 21) hx hb d_Rules_firstOf_1 (by decide +kernel) (fun c1 => ?_) (fun c1 => ?_)
  · have hf := x_pos c1 hf
    refine lv_aload_n hx hb d_Rules_firstOf_21 rfl (lv_at hl 0 rfl) ?_
    refine va_get (D := (dC, dI)) (ci := 1) (v := .int R_used) (C := "SyntaxTrees$Rules") (T := F_Rules) (N := 9) hx hb hts (fun w h => List.mem_cons_of_mem _ (in_Rules w h)) hown hK.1 hP 0 rfl rfl 7 (by decide +kernel) (hts _ (List.mem_cons_of_mem _ m_87)) (fun _ h9 => h9) rfl d_Rules_firstOf_22 ?_
    cases hf
    subst hQ
    exact W.iret hx hb hr (fun t ht _ => ⟨rfl, ht⟩) (fun _ h => absurd h List.not_mem_nil) d_Rules_firstOf_25
  · have hf := x_neg c1 hf
    refine lv_iload_n hx hb d_Rules_firstOf_4 rfl (lv_at hl 1 rfl) ?_
    refine lv_aload_n hx hb d_Rules_firstOf_5 rfl (lv_at hl 0 rfl) ?_
    refine va_get (D := (dC, dI)) (ci := 1) (v := .int R_closed) (C := "SyntaxTrees$Rules") (T := F_Rules) (N := 9) hx hb hts (fun w h => List.mem_cons_of_mem _ (in_Rules w h)) hown hK.1 hP 0 rfl rfl 6 (by decide +kernel) (hts _ (List.mem_cons_of_mem _ m_86)) (fun _ h9 => h9) rfl d_Rules_firstOf_6 ?_
    refine lv_icmp_gt (tgt := 21) hx hb d_Rules_firstOf_9 (by decide +kernel) (fun c2 => ?_) (fun c2 => ?_)
    · have hf := x_pos c2 hf
      refine lv_aload_n hx hb d_Rules_firstOf_21 rfl (lv_at hl 0 rfl) ?_
      refine va_get (D := (dC, dI)) (ci := 1) (v := .int R_used) (C := "SyntaxTrees$Rules") (T := F_Rules) (N := 9) hx hb hts (fun w h => List.mem_cons_of_mem _ (in_Rules w h)) hown hK.1 hP 0 rfl rfl 7 (by decide +kernel) (hts _ (List.mem_cons_of_mem _ m_87)) (fun _ h9 => h9) rfl d_Rules_firstOf_22 ?_
      cases hf
      subst hQ
      exact W.iret hx hb hr (fun t ht _ => ⟨rfl, ht⟩) (fun _ h => absurd h List.not_mem_nil) d_Rules_firstOf_25
    · have hf := x_neg c2 hf
      refine lv_aload_n hx hb d_Rules_firstOf_12 rfl (lv_at hl 0 rfl) ?_
      refine va_get (D := (dC, dI)) (ci := 1) (v := .ref a_R_firsts) (C := "SyntaxTrees$Rules") (T := F_Rules) (N := 9) hx hb hts (fun w h => List.mem_cons_of_mem _ (in_Rules w h)) hown hK.1 hP 0 rfl rfl 3 (by decide +kernel) (hts _ (List.mem_cons_of_mem _ m_83)) (fun _ h9 => h9) rfl d_Rules_firstOf_13 ?_
      refine lv_iload_n hx hb d_Rules_firstOf_16 rfl (lv_at hl 1 rfl) ?_
      obtain ⟨h3, hf⟩ := x_gd hf
      refine va_iald hx hb hK.1 hP 1 0 rfl rfl h3 d_Rules_firstOf_17 ?_
      refine lv_goto (tgt := 25) hx hb d_Rules_firstOf_18 (by decide +kernel) ?_
      cases hf
      subst hQ
      exact W.iret hx hb hr (fun t ht _ => ⟨rfl, ht⟩) (fun _ h => absurd h List.not_mem_nil) d_Rules_firstOf_25
set_option maxHeartbeats 4000000 in
set_option maxRecDepth 100000 in
theorem c_Rules_lengthOf (l : Launch) (dC : Nat → ClassId) (dI : Nat → Nat → Nat) (cI cJ cB : ClassId) (a_R a_S a_R_sorts a_R_all a_R_firsts a_R_newestWraps a_R_olderWraps : Nat)  (R_closed : Int32) (R_used : Int32) (R_isOpen : Int32) (R_firsts : Nat → Int32) (p1 : Int32) (n : Nat) (o : Int32) (hf : f_Rules_lengthOf n R_closed R_firsts p1 = some o) : Met l y_Rules_lengthOf w_Rules_lengthOf ({ frames := 1, cells := 0, slots := 0, locals := 21 }) (va_Pc [.ref a_R, .int p1] (fun U => va_P (dC, dI) vwCl [(a_R, .inr (1, [.ref a_S, .ref a_R_sorts, .ref a_R_all, .ref a_R_firsts, .ref a_R_newestWraps, .ref a_R_olderWraps, .int R_closed, .int R_used, .int R_isOpen])), (a_R_firsts, .inl (cI, 1501, .inl R_firsts))] U.heap ∧ x_K (dC, dI) [(cI, .int), (cJ, .long), (cB, .byte)] U)) (QcRead o) 0 0 (fun _ => False) := by
  refine Met.ofW (cc := b_Rules_lengthOf) (maxL := 2) (ret := (some .int)) (by decide +kernel) rfl ?_
  intro p e s m args below meth c s₁ B hml hv
  obtain ⟨rfl, hP, hK⟩ := hv
  have hx := B.exec
  have hb := B.bytes
  have hr := B.returns
  have hts := atoms_spec (ws := w_Rules_lengthOf) B.pre
  have hown : s.vm.findClass "SyntaxTrees$Rules" = some m.cls := findClass_of_methodNamed B.named
  have hlocks := B.notSynchronized
  have hP : va_P (dC, dI) vwCl [(a_R, .inr (1, [.ref a_S, .ref a_R_sorts, .ref a_R_all, .ref a_R_firsts, .ref a_R_newestWraps, .ref a_R_olderWraps, .int R_closed, .int R_used, .int R_isOpen])), (a_R_firsts, .inl (cI, 1501, .inl R_firsts))] s.heap := hP
  have hl := lv_entry ([.ref a_R, .int p1]) (n := 2) (Nat.le_of_ble_eq_true rfl)
  rw [lg_entry_eq]
  generalize (lg_sl ([.ref a_R, .int p1]) ++ List.replicate (2 - (lg_sl ([.ref a_R, .int p1])).length) Slot.unset).toArray = ls at hl ⊢
  have hl : lv_has ls 2 [(0, .ref a_R), (1, .int p1)] := hl
  refine x_Q (fun Q hQ => ?_)
  unfold f_Rules_lengthOf at hf
  refine lv_aload_n hx hb d_Rules_lengthOf_0 rfl (lv_at hl 0 rfl) ?_
  refine lv_iload_n hx hb d_Rules_lengthOf_1 rfl (lv_at hl 1 rfl) ?_
  obtain ⟨x1, hx1, hf⟩ := x_bd hf
  refine x_rdiV (As := [.int p1]) (rest := []) (wc := [(a_R, .inr (1, [.ref a_S, .ref a_R_sorts, .ref a_R_all, .ref a_R_firsts, .ref a_R_newestWraps, .ref a_R_olderWraps, .int R_closed, .int R_used, .int R_isOpen]))]) ⟨hx, hb, hml, hown, hts⟩ (c_Rules_isClosed l dC dI cI cJ cB a_R a_S a_R_sorts a_R_all a_R_firsts a_R_newestWraps a_R_olderWraps R_closed R_used R_isOpen p1 n x1 hx1) (cwV 1 hts (x_gV m_344 m_345 m_346 m_44 m_347) rfl rfl rfl hd_Rules_isClosed ⟨Nat.le_of_ble_eq_true rfl, Nat.le_of_ble_eq_true rfl⟩) hK hP [0] rfl (ci := 1) (q0 := 0) rfl rfl rfl rfl hl.1 rfl (Nat.le_of_ble_eq_true rfl) d_Rules_lengthOf_2 ⟨Nat.le_of_ble_eq_true rfl, Nat.le_of_ble_eq_true rfl⟩ ?_
  refine lv_if_eq (tgt := 26) hx hb d_Rules_lengthOf_5 (by decide +kernel) (fun c2 => ?_) (fun c2 => ?_)
  · have hf := x_pos c2 hf
    refine lv_iconst (v := (0 : Int32)) hx hb d_Rules_lengthOf_26 (by decide +kernel) ?_
    cases hf
    subst hQ
    exact W.iret hx hb hr (fun t ht _ => ⟨rfl, ht⟩) (fun _ h => absurd h List.not_mem_nil) d_Rules_lengthOf_27
  · have hf := x_neg c2 hf
    refine lv_aload_n hx hb d_Rules_lengthOf_8 rfl (lv_at hl 0 rfl) ?_
    refine va_get (D := (dC, dI)) (ci := 1) (v := .ref a_R_firsts) (C := "SyntaxTrees$Rules") (T := F_Rules) (N := 9) hx hb hts (fun w h => List.mem_cons_of_mem _ (in_Rules w h)) hown hK.1 hP 0 rfl rfl 3 (by decide +kernel) (hts _ (List.mem_cons_of_mem _ m_83)) (fun _ h9 => h9) rfl d_Rules_lengthOf_9 ?_
    refine lv_iload_n hx hb d_Rules_lengthOf_12 rfl (lv_at hl 1 rfl) ?_
    refine lv_iconst (v := (1 : Int32)) hx hb d_Rules_lengthOf_13 (by decide +kernel) ?_
    refine lv_iadd hx hb d_Rules_lengthOf_14 ?_
    obtain ⟨h3, hf⟩ := x_gd hf
    refine va_iald hx hb hK.1 hP 1 0 rfl rfl h3 d_Rules_lengthOf_15 ?_
    refine lv_aload_n hx hb d_Rules_lengthOf_16 rfl (lv_at hl 0 rfl) ?_
    refine va_get (D := (dC, dI)) (ci := 1) (v := .ref a_R_firsts) (C := "SyntaxTrees$Rules") (T := F_Rules) (N := 9) hx hb hts (fun w h => List.mem_cons_of_mem _ (in_Rules w h)) hown hK.1 hP 0 rfl rfl 3 (by decide +kernel) (hts _ (List.mem_cons_of_mem _ m_83)) (fun _ h9 => h9) rfl d_Rules_lengthOf_17 ?_
    refine lv_iload_n hx hb d_Rules_lengthOf_20 rfl (lv_at hl 1 rfl) ?_
    obtain ⟨h4, hf⟩ := x_gd hf
    refine va_iald hx hb hK.1 hP 1 0 rfl rfl h4 d_Rules_lengthOf_21 ?_
    refine lv_isub hx hb d_Rules_lengthOf_22 ?_
    refine lv_goto (tgt := 27) hx hb d_Rules_lengthOf_23 (by decide +kernel) ?_
    cases hf
    subst hQ
    exact W.iret hx hb hr (fun t ht _ => ⟨rfl, ht⟩) (fun _ h => absurd h List.not_mem_nil) d_Rules_lengthOf_27
set_option maxHeartbeats 4000000 in
set_option maxRecDepth 100000 in
theorem c_Rules_symbolAt (l : Launch) (dC : Nat → ClassId) (dI : Nat → Nat → Nat) (cI cJ cB : ClassId) (a_R a_S a_R_sorts a_R_all a_R_firsts a_R_newestWraps a_R_olderWraps : Nat)  (R_closed : Int32) (R_used : Int32) (R_isOpen : Int32) (R_all : Nat → Int32) (p1 : Int32) (n : Nat) (o : Int32) (hf : f_Rules_symbolAt n R_used R_all p1 = some o) : Met l y_Rules_symbolAt w_Rules_symbolAt ({ frames := 0, cells := 0, slots := 0, locals := 0 }) (va_Pc [.ref a_R, .int p1] (fun U => va_P (dC, dI) vwCl [(a_R, .inr (1, [.ref a_S, .ref a_R_sorts, .ref a_R_all, .ref a_R_firsts, .ref a_R_newestWraps, .ref a_R_olderWraps, .int R_closed, .int R_used, .int R_isOpen])), (a_R_all, .inl (cI, 30000, .inl R_all))] U.heap ∧ x_K (dC, dI) [(cI, .int), (cJ, .long), (cB, .byte)] U)) (QcRead o) 0 0 (fun _ => False) := by
  refine Met.ofW (cc := b_Rules_symbolAt) (maxL := 2) (ret := (some .int)) (by decide +kernel) rfl ?_
  intro p e s m args below meth c s₁ B hml hv
  obtain ⟨rfl, hP, hK⟩ := hv
  have hx := B.exec
  have hb := B.bytes
  have hr := B.returns
  have hts := atoms_spec (ws := w_Rules_symbolAt) B.pre
  have hown : s.vm.findClass "SyntaxTrees$Rules" = some m.cls := findClass_of_methodNamed B.named
  have hlocks := B.notSynchronized
  have hP : va_P (dC, dI) vwCl [(a_R, .inr (1, [.ref a_S, .ref a_R_sorts, .ref a_R_all, .ref a_R_firsts, .ref a_R_newestWraps, .ref a_R_olderWraps, .int R_closed, .int R_used, .int R_isOpen])), (a_R_all, .inl (cI, 30000, .inl R_all))] s.heap := hP
  have hl := lv_entry ([.ref a_R, .int p1]) (n := 2) (Nat.le_of_ble_eq_true rfl)
  rw [lg_entry_eq]
  generalize (lg_sl ([.ref a_R, .int p1]) ++ List.replicate (2 - (lg_sl ([.ref a_R, .int p1])).length) Slot.unset).toArray = ls at hl ⊢
  have hl : lv_has ls 2 [(0, .ref a_R), (1, .int p1)] := hl
  refine x_Q (fun Q hQ => ?_)
  unfold f_Rules_symbolAt at hf
  refine lv_iload_n hx hb d_Rules_symbolAt_0 rfl (lv_at hl 1 rfl) ?_
  refine lv_if_lt (tgt := 21) hx hb d_Rules_symbolAt_1 (by decide +kernel) (fun c1 => ?_) (fun c1 => ?_)
  · have hf := x_pos c1 hf
    refine lv_iconst (v := (-1 : Int32)) hx hb d_Rules_symbolAt_21 (by decide +kernel) ?_
    cases hf
    subst hQ
    exact W.iret hx hb hr (fun t ht _ => ⟨rfl, ht⟩) (fun _ h => absurd h List.not_mem_nil) d_Rules_symbolAt_22
  · have hf := x_neg c1 hf
    refine lv_iload_n hx hb d_Rules_symbolAt_4 rfl (lv_at hl 1 rfl) ?_
    refine lv_aload_n hx hb d_Rules_symbolAt_5 rfl (lv_at hl 0 rfl) ?_
    refine va_get (D := (dC, dI)) (ci := 1) (v := .int R_used) (C := "SyntaxTrees$Rules") (T := F_Rules) (N := 9) hx hb hts (fun w h => List.mem_cons_of_mem _ (in_Rules w h)) hown hK.1 hP 0 rfl rfl 7 (by decide +kernel) (hts _ (List.mem_cons_of_mem _ m_87)) (fun _ h9 => h9) rfl d_Rules_symbolAt_6 ?_
    refine lv_icmp_ge (tgt := 21) hx hb d_Rules_symbolAt_9 (by decide +kernel) (fun c2 => ?_) (fun c2 => ?_)
    · have hf := x_pos c2 hf
      refine lv_iconst (v := (-1 : Int32)) hx hb d_Rules_symbolAt_21 (by decide +kernel) ?_
      cases hf
      subst hQ
      exact W.iret hx hb hr (fun t ht _ => ⟨rfl, ht⟩) (fun _ h => absurd h List.not_mem_nil) d_Rules_symbolAt_22
    · have hf := x_neg c2 hf
      refine lv_aload_n hx hb d_Rules_symbolAt_12 rfl (lv_at hl 0 rfl) ?_
      refine va_get (D := (dC, dI)) (ci := 1) (v := .ref a_R_all) (C := "SyntaxTrees$Rules") (T := F_Rules) (N := 9) hx hb hts (fun w h => List.mem_cons_of_mem _ (in_Rules w h)) hown hK.1 hP 0 rfl rfl 2 (by decide +kernel) (hts _ (List.mem_cons_of_mem _ m_82)) (fun _ h9 => h9) rfl d_Rules_symbolAt_13 ?_
      refine lv_iload_n hx hb d_Rules_symbolAt_16 rfl (lv_at hl 1 rfl) ?_
      obtain ⟨h3, hf⟩ := x_gd hf
      refine va_iald hx hb hK.1 hP 1 0 rfl rfl h3 d_Rules_symbolAt_17 ?_
      refine lv_goto (tgt := 22) hx hb d_Rules_symbolAt_18 (by decide +kernel) ?_
      cases hf
      subst hQ
      exact W.iret hx hb hr (fun t ht _ => ⟨rfl, ht⟩) (fun _ h => absurd h List.not_mem_nil) d_Rules_symbolAt_22
set_option maxHeartbeats 4000000 in
set_option maxRecDepth 100000 in
theorem c_Rules_newestWrap (l : Launch) (dC : Nat → ClassId) (dI : Nat → Nat → Nat) (cI cJ cB : ClassId) (a_R a_S a_R_sorts a_R_all a_R_firsts a_R_newestWraps a_R_olderWraps : Nat)  (R_closed : Int32) (R_used : Int32) (R_isOpen : Int32) (R_newestWraps : Nat → Int32) (p1 : Int32) (n : Nat) (o : Int32) (hf : f_Rules_newestWrap n R_newestWraps p1 = some o) : Met l y_Rules_newestWrap w_Rules_newestWrap ({ frames := 1, cells := 0, slots := 0, locals := 20 }) (va_Pc [.ref a_R, .int p1] (fun U => va_P (dC, dI) vwCl [(a_R, .inr (1, [.ref a_S, .ref a_R_sorts, .ref a_R_all, .ref a_R_firsts, .ref a_R_newestWraps, .ref a_R_olderWraps, .int R_closed, .int R_used, .int R_isOpen])), (a_R_newestWraps, .inl (cI, 100, .inl R_newestWraps))] U.heap ∧ x_K (dC, dI) [(cI, .int), (cJ, .long), (cB, .byte)] U)) (QcRead o) 0 0 (fun _ => False) := by
  refine Met.ofW (cc := b_Rules_newestWrap) (maxL := 2) (ret := (some .int)) (by decide +kernel) rfl ?_
  intro p e s m args below meth c s₁ B hml hv
  obtain ⟨rfl, hP, hK⟩ := hv
  have hx := B.exec
  have hb := B.bytes
  have hr := B.returns
  have hts := atoms_spec (ws := w_Rules_newestWrap) B.pre
  have hown : s.vm.findClass "SyntaxTrees$Rules" = some m.cls := findClass_of_methodNamed B.named
  have hlocks := B.notSynchronized
  have hP : va_P (dC, dI) vwCl [(a_R, .inr (1, [.ref a_S, .ref a_R_sorts, .ref a_R_all, .ref a_R_firsts, .ref a_R_newestWraps, .ref a_R_olderWraps, .int R_closed, .int R_used, .int R_isOpen])), (a_R_newestWraps, .inl (cI, 100, .inl R_newestWraps))] s.heap := hP
  have hl := lv_entry ([.ref a_R, .int p1]) (n := 2) (Nat.le_of_ble_eq_true rfl)
  rw [lg_entry_eq]
  generalize (lg_sl ([.ref a_R, .int p1]) ++ List.replicate (2 - (lg_sl ([.ref a_R, .int p1])).length) Slot.unset).toArray = ls at hl ⊢
  have hl : lv_has ls 2 [(0, .ref a_R), (1, .int p1)] := hl
  refine x_Q (fun Q hQ => ?_)
  unfold f_Rules_newestWrap at hf
  refine lv_iload_n hx hb d_Rules_newestWrap_0 rfl (lv_at hl 1 rfl) ?_
  obtain ⟨x1, hx1, hf⟩ := x_bd hf
  refine x_rdiSN (As := [.int p1]) (rest := []) (wc := []) ⟨hx, hb, hml, hown, hts⟩ (c_Top_isRank l dC dI cI cJ cB p1 n x1 hx1) ⟨va_cnB 1 hts (x_gC m_262) rfl rfl rfl (hK.2 _ nx_Rules_51) (hts _ (List.mem_cons_of_mem _ m_42)) hd_Top_isRank.2 ⟨Nat.le_of_ble_eq_true rfl, Nat.le_of_ble_eq_true rfl⟩, (hts _ (List.mem_cons_of_mem _ m_261)), trivial⟩ hK hP [] rfl rfl hl.1 rfl (Nat.le_of_ble_eq_true rfl) d_Rules_newestWrap_1 ⟨Nat.le_of_ble_eq_true rfl, Nat.le_of_ble_eq_true rfl⟩ ?_
  refine lv_if_eq (tgt := 16) hx hb d_Rules_newestWrap_4 (by decide +kernel) (fun c2 => ?_) (fun c2 => ?_)
  · have hf := x_pos c2 hf
    refine lv_iconst (v := (-1 : Int32)) hx hb d_Rules_newestWrap_16 (by decide +kernel) ?_
    cases hf
    subst hQ
    exact W.iret hx hb hr (fun t ht _ => ⟨rfl, ht⟩) (fun _ h => absurd h List.not_mem_nil) d_Rules_newestWrap_17
  · have hf := x_neg c2 hf
    refine lv_aload_n hx hb d_Rules_newestWrap_7 rfl (lv_at hl 0 rfl) ?_
    refine va_get (D := (dC, dI)) (ci := 1) (v := .ref a_R_newestWraps) (C := "SyntaxTrees$Rules") (T := F_Rules) (N := 9) hx hb hts (fun w h => List.mem_cons_of_mem _ (in_Rules w h)) hown hK.1 hP 0 rfl rfl 4 (by decide +kernel) (hts _ (List.mem_cons_of_mem _ m_84)) (fun _ h9 => h9) rfl d_Rules_newestWrap_8 ?_
    refine lv_iload_n hx hb d_Rules_newestWrap_11 rfl (lv_at hl 1 rfl) ?_
    obtain ⟨h3, hf⟩ := x_gd hf
    refine va_iald hx hb hK.1 hP 1 0 rfl rfl h3 d_Rules_newestWrap_12 ?_
    refine lv_goto (tgt := 17) hx hb d_Rules_newestWrap_13 (by decide +kernel) ?_
    cases hf
    subst hQ
    exact W.iret hx hb hr (fun t ht _ => ⟨rfl, ht⟩) (fun _ h => absurd h List.not_mem_nil) d_Rules_newestWrap_17
set_option maxHeartbeats 4000000 in
set_option maxRecDepth 100000 in
theorem c_Rules_olderWrap (l : Launch) (dC : Nat → ClassId) (dI : Nat → Nat → Nat) (cI cJ cB : ClassId) (a_R a_S a_R_sorts a_R_all a_R_firsts a_R_newestWraps a_R_olderWraps : Nat)  (R_closed : Int32) (R_used : Int32) (R_isOpen : Int32) (R_olderWraps : Nat → Int32) (p1 : Int32) (n : Nat) (o : Int32) (hf : f_Rules_olderWrap n R_closed R_olderWraps p1 = some o) : Met l y_Rules_olderWrap w_Rules_olderWrap ({ frames := 1, cells := 0, slots := 0, locals := 21 }) (va_Pc [.ref a_R, .int p1] (fun U => va_P (dC, dI) vwCl [(a_R, .inr (1, [.ref a_S, .ref a_R_sorts, .ref a_R_all, .ref a_R_firsts, .ref a_R_newestWraps, .ref a_R_olderWraps, .int R_closed, .int R_used, .int R_isOpen])), (a_R_olderWraps, .inl (cI, 1500, .inl R_olderWraps))] U.heap ∧ x_K (dC, dI) [(cI, .int), (cJ, .long), (cB, .byte)] U)) (QcRead o) 0 0 (fun _ => False) := by
  refine Met.ofW (cc := b_Rules_olderWrap) (maxL := 2) (ret := (some .int)) (by decide +kernel) rfl ?_
  intro p e s m args below meth c s₁ B hml hv
  obtain ⟨rfl, hP, hK⟩ := hv
  have hx := B.exec
  have hb := B.bytes
  have hr := B.returns
  have hts := atoms_spec (ws := w_Rules_olderWrap) B.pre
  have hown : s.vm.findClass "SyntaxTrees$Rules" = some m.cls := findClass_of_methodNamed B.named
  have hlocks := B.notSynchronized
  have hP : va_P (dC, dI) vwCl [(a_R, .inr (1, [.ref a_S, .ref a_R_sorts, .ref a_R_all, .ref a_R_firsts, .ref a_R_newestWraps, .ref a_R_olderWraps, .int R_closed, .int R_used, .int R_isOpen])), (a_R_olderWraps, .inl (cI, 1500, .inl R_olderWraps))] s.heap := hP
  have hl := lv_entry ([.ref a_R, .int p1]) (n := 2) (Nat.le_of_ble_eq_true rfl)
  rw [lg_entry_eq]
  generalize (lg_sl ([.ref a_R, .int p1]) ++ List.replicate (2 - (lg_sl ([.ref a_R, .int p1])).length) Slot.unset).toArray = ls at hl ⊢
  have hl : lv_has ls 2 [(0, .ref a_R), (1, .int p1)] := hl
  refine x_Q (fun Q hQ => ?_)
  unfold f_Rules_olderWrap at hf
  refine lv_aload_n hx hb d_Rules_olderWrap_0 rfl (lv_at hl 0 rfl) ?_
  refine lv_iload_n hx hb d_Rules_olderWrap_1 rfl (lv_at hl 1 rfl) ?_
  obtain ⟨x1, hx1, hf⟩ := x_bd hf
  refine x_rdiV (As := [.int p1]) (rest := []) (wc := [(a_R, .inr (1, [.ref a_S, .ref a_R_sorts, .ref a_R_all, .ref a_R_firsts, .ref a_R_newestWraps, .ref a_R_olderWraps, .int R_closed, .int R_used, .int R_isOpen]))]) ⟨hx, hb, hml, hown, hts⟩ (c_Rules_isClosed l dC dI cI cJ cB a_R a_S a_R_sorts a_R_all a_R_firsts a_R_newestWraps a_R_olderWraps R_closed R_used R_isOpen p1 n x1 hx1) (cwV 1 hts (x_gV m_344 m_345 m_346 m_44 m_347) rfl rfl rfl hd_Rules_isClosed ⟨Nat.le_of_ble_eq_true rfl, Nat.le_of_ble_eq_true rfl⟩) hK hP [0] rfl (ci := 1) (q0 := 0) rfl rfl rfl rfl hl.1 rfl (Nat.le_of_ble_eq_true rfl) d_Rules_olderWrap_2 ⟨Nat.le_of_ble_eq_true rfl, Nat.le_of_ble_eq_true rfl⟩ ?_
  refine lv_if_eq (tgt := 17) hx hb d_Rules_olderWrap_5 (by decide +kernel) (fun c2 => ?_) (fun c2 => ?_)
  · have hf := x_pos c2 hf
    refine lv_iconst (v := (-1 : Int32)) hx hb d_Rules_olderWrap_17 (by decide +kernel) ?_
    cases hf
    subst hQ
    exact W.iret hx hb hr (fun t ht _ => ⟨rfl, ht⟩) (fun _ h => absurd h List.not_mem_nil) d_Rules_olderWrap_18
  · have hf := x_neg c2 hf
    refine lv_aload_n hx hb d_Rules_olderWrap_8 rfl (lv_at hl 0 rfl) ?_
    refine va_get (D := (dC, dI)) (ci := 1) (v := .ref a_R_olderWraps) (C := "SyntaxTrees$Rules") (T := F_Rules) (N := 9) hx hb hts (fun w h => List.mem_cons_of_mem _ (in_Rules w h)) hown hK.1 hP 0 rfl rfl 5 (by decide +kernel) (hts _ (List.mem_cons_of_mem _ m_85)) (fun _ h9 => h9) rfl d_Rules_olderWrap_9 ?_
    refine lv_iload_n hx hb d_Rules_olderWrap_12 rfl (lv_at hl 1 rfl) ?_
    obtain ⟨h3, hf⟩ := x_gd hf
    refine va_iald hx hb hK.1 hP 1 0 rfl rfl h3 d_Rules_olderWrap_13 ?_
    refine lv_goto (tgt := 18) hx hb d_Rules_olderWrap_14 (by decide +kernel) ?_
    cases hf
    subst hQ
    exact W.iret hx hb hr (fun t ht _ => ⟨rfl, ht⟩) (fun _ h => absurd h List.not_mem_nil) d_Rules_olderWrap_18
set_option maxHeartbeats 4000000 in
set_option maxRecDepth 100000 in
theorem c_Rules_open (l : Launch) (dC : Nat → ClassId) (dI : Nat → Nat → Nat) (cI cJ cB : ClassId) (a_S a_S_types a_S_ranks a_S_typeRanks a_R a_R_sorts a_R_all a_R_firsts a_R_newestWraps a_R_olderWraps : Nat)  (S_size : Int32) (S_sorts : Int32) (S_types : Nat → Int32) (S_ranks : Nat → Int32) (R_closed : Int32) (R_used : Int32) (R_isOpen : Int32) (R_sorts : Nat → Int32) (p1 : Int32) (sz : Nat) (n : Nat) (o : Int32 × Int32 × (Nat → Int32) × Int32 × (Nat → Int32)) (hf : f_Rules_open n S_size S_sorts S_types S_ranks R_closed R_isOpen R_sorts p1 = some o) : Met l y_Rules_open w_Rules_open ({ frames := 3, cells := 0, slots := 0, locals := 63 }) (va_Pc [.ref a_R, .int p1] (fun U => U.heap.size = sz ∧ va_P (dC, dI) vwCl [(a_S, .inr (0, [.ref a_S_types, .ref a_S_ranks, .ref a_S_typeRanks, .int S_size, .int S_sorts])), (a_S_types, .inl (cI, 1000, .inl S_types)), (a_S_ranks, .inl (cI, 1000, .inl S_ranks)), (a_R, .inr (1, [.ref a_S, .ref a_R_sorts, .ref a_R_all, .ref a_R_firsts, .ref a_R_newestWraps, .ref a_R_olderWraps, .int R_closed, .int R_used, .int R_isOpen])), (a_R_sorts, .inl (cI, 1500, .inl R_sorts))] U.heap ∧ x_K (dC, dI) [(cI, .int), (cJ, .long), (cB, .byte)] U ∧ va_D (fun _ => True) [(a_S, .inr (0, [.ref a_S_types, .ref a_S_ranks, .ref a_S_typeRanks, .int S_size, .int S_sorts])), (a_S_types, .inl (cI, 1000, .inl S_types)), (a_S_ranks, .inl (cI, 1000, .inl S_ranks)), (a_R, .inr (1, [.ref a_S, .ref a_R_sorts, .ref a_R_all, .ref a_R_firsts, .ref a_R_newestWraps, .ref a_R_olderWraps, .int R_closed, .int R_used, .int R_isOpen])), (a_R_sorts, .inl (cI, 1500, .inl R_sorts))])) (va_Qi (fun r (_ : Unit) => r = o.1) (fun _ t => va_P (dC, dI) vwCl [(a_S, .inr (0, [.ref a_S_types, .ref a_S_ranks, .ref a_S_typeRanks, .int S_size, .int o.2.1])), (a_S_types, .inl (cI, 1000, .inl S_types)), (a_S_ranks, .inl (cI, 1000, .inl o.2.2.1)), (a_R, .inr (1, [.ref a_S, .ref a_R_sorts, .ref a_R_all, .ref a_R_firsts, .ref a_R_newestWraps, .ref a_R_olderWraps, .int R_closed, .int R_used, .int o.2.2.2.1])), (a_R_sorts, .inl (cI, 1500, .inl o.2.2.2.2))] t.heap ∧ va_D (va_A [(a_S, .inr (0, [.ref a_S_types, .ref a_S_ranks, .ref a_S_typeRanks, .int S_size, .int S_sorts])), (a_S_types, .inl (cI, 1000, .inl S_types)), (a_S_ranks, .inl (cI, 1000, .inl S_ranks)), (a_R, .inr (1, [.ref a_S, .ref a_R_sorts, .ref a_R_all, .ref a_R_firsts, .ref a_R_newestWraps, .ref a_R_olderWraps, .int R_closed, .int R_used, .int R_isOpen])), (a_R_sorts, .inl (cI, 1500, .inl R_sorts))] sz) [(a_S, .inr (0, [.ref a_S_types, .ref a_S_ranks, .ref a_S_typeRanks, .int S_size, .int o.2.1])), (a_S_types, .inl (cI, 1000, .inl S_types)), (a_S_ranks, .inl (cI, 1000, .inl o.2.2.1)), (a_R, .inr (1, [.ref a_S, .ref a_R_sorts, .ref a_R_all, .ref a_R_firsts, .ref a_R_newestWraps, .ref a_R_olderWraps, .int R_closed, .int R_used, .int o.2.2.2.1])), (a_R_sorts, .inl (cI, 1500, .inl o.2.2.2.2))]) (va_A [(a_S, .inr (0, [.ref a_S_types, .ref a_S_ranks, .ref a_S_typeRanks, .int S_size, .int S_sorts])), (a_S_types, .inl (cI, 1000, .inl S_types)), (a_S_ranks, .inl (cI, 1000, .inl S_ranks)), (a_R, .inr (1, [.ref a_S, .ref a_R_sorts, .ref a_R_all, .ref a_R_firsts, .ref a_R_newestWraps, .ref a_R_olderWraps, .int R_closed, .int R_used, .int R_isOpen])), (a_R_sorts, .inl (cI, 1500, .inl R_sorts))] sz)) 0 0 (va_A [(a_S, .inr (0, [.ref a_S_types, .ref a_S_ranks, .ref a_S_typeRanks, .int S_size, .int S_sorts])), (a_S_types, .inl (cI, 1000, .inl S_types)), (a_S_ranks, .inl (cI, 1000, .inl S_ranks)), (a_R, .inr (1, [.ref a_S, .ref a_R_sorts, .ref a_R_all, .ref a_R_firsts, .ref a_R_newestWraps, .ref a_R_olderWraps, .int R_closed, .int R_used, .int R_isOpen])), (a_R_sorts, .inl (cI, 1500, .inl R_sorts))] sz) := by
  refine Met.ofW (cc := b_Rules_open) (maxL := 2) (ret := (some .int)) (by decide +kernel) rfl ?_
  intro p e s m args below meth c s₁ B hml hv
  obtain ⟨rfl, hsz, hP, hK, hD0⟩ := hv
  have hx := B.exec
  have hb := B.bytes
  have hr := B.returns
  have hts := atoms_spec (ws := w_Rules_open) B.pre
  have hown : s.vm.findClass "SyntaxTrees$Rules" = some m.cls := findClass_of_methodNamed B.named
  have hlocks := B.notSynchronized
  subst hsz
  have hD := hD0.self (sz := s.heap.size)
  generalize hAe : va_A [(a_S, .inr (0, [.ref a_S_types, .ref a_S_ranks, .ref a_S_typeRanks, .int S_size, .int S_sorts])), (a_S_types, .inl (cI, 1000, .inl S_types)), (a_S_ranks, .inl (cI, 1000, .inl S_ranks)), (a_R, .inr (1, [.ref a_S, .ref a_R_sorts, .ref a_R_all, .ref a_R_firsts, .ref a_R_newestWraps, .ref a_R_olderWraps, .int R_closed, .int R_used, .int R_isOpen])), (a_R_sorts, .inl (cI, 1500, .inl R_sorts))] s.heap.size = A at hD ⊢
  have hA : ∀ q : Nat, s.heap.size ≤ q → A q := fun q h => by rw [← hAe]; exact Or.inr h
  have hS : va_S A s.heap s.heap [] := va_S.rf
  have hP : va_P (dC, dI) vwCl [(a_S, .inr (0, [.ref a_S_types, .ref a_S_ranks, .ref a_S_typeRanks, .int S_size, .int S_sorts])), (a_S_types, .inl (cI, 1000, .inl S_types)), (a_S_ranks, .inl (cI, 1000, .inl S_ranks)), (a_R, .inr (1, [.ref a_S, .ref a_R_sorts, .ref a_R_all, .ref a_R_firsts, .ref a_R_newestWraps, .ref a_R_olderWraps, .int R_closed, .int R_used, .int R_isOpen])), (a_R_sorts, .inl (cI, 1500, .inl R_sorts))] s.heap := hP
  have hl := lv_entry ([.ref a_R, .int p1]) (n := 2) (Nat.le_of_ble_eq_true rfl)
  rw [lg_entry_eq]
  generalize (lg_sl ([.ref a_R, .int p1]) ++ List.replicate (2 - (lg_sl ([.ref a_R, .int p1])).length) Slot.unset).toArray = ls at hl ⊢
  have hl : lv_has ls 2 [(0, .ref a_R), (1, .int p1)] := hl
  refine x_Q (fun Q hQ => ?_)
  unfold f_Rules_open at hf
  refine lv_aload_n hx hb d_Rules_open_0 rfl (lv_at hl 0 rfl) ?_
  refine va_get (D := (dC, dI)) (ci := 1) (v := .int R_isOpen) (C := "SyntaxTrees$Rules") (T := F_Rules) (N := 9) hx hb hts (fun w h => List.mem_cons_of_mem _ (in_Rules w h)) hown hK.1 hP 3 rfl rfl 8 (by decide +kernel) (hts _ (List.mem_cons_of_mem _ m_88)) (fun _ h9 => h9) rfl d_Rules_open_1 ?_
  refine lv_if_ne (tgt := 28) hx hb d_Rules_open_4 (by decide +kernel) (fun c1 => ?_) (fun c1 => ?_)
  · have hf := x_neg c1 hf
    refine lv_iconst (v := (-1 : Int32)) hx hb d_Rules_open_28 (by decide +kernel) ?_
    cases hf
    subst hQ
    exact W.iret hx hb hr (fun t ht _ => ⟨⟨_, (), rfl, rfl, by rw [ht]; exact hP, hD⟩, hS.F ht⟩) hS.2.2 d_Rules_open_29
  · have hf := x_pos c1 hf
    refine lv_aload_n hx hb d_Rules_open_7 rfl (lv_at hl 0 rfl) ?_
    refine va_get (D := (dC, dI)) (ci := 1) (v := .int R_closed) (C := "SyntaxTrees$Rules") (T := F_Rules) (N := 9) hx hb hts (fun w h => List.mem_cons_of_mem _ (in_Rules w h)) hown hK.1 hP 3 rfl rfl 6 (by decide +kernel) (hts _ (List.mem_cons_of_mem _ m_86)) (fun _ h9 => h9) rfl d_Rules_open_8 ?_
    refine lv_sipush (v := (1500 : Int32)) hx hb d_Rules_open_11 (by decide +kernel) ?_
    refine lv_icmp_ge (tgt := 28) hx hb d_Rules_open_14 (by decide +kernel) (fun c2 => ?_) (fun c2 => ?_)
    · have hf := x_pos c2 hf
      refine lv_iconst (v := (-1 : Int32)) hx hb d_Rules_open_28 (by decide +kernel) ?_
      cases hf
      subst hQ
      exact W.iret hx hb hr (fun t ht _ => ⟨⟨_, (), rfl, rfl, by rw [ht]; exact hP, hD⟩, hS.F ht⟩) hS.2.2 d_Rules_open_29
    · have hf := x_neg c2 hf
      refine lv_aload_n hx hb d_Rules_open_17 rfl (lv_at hl 0 rfl) ?_
      refine va_get (D := (dC, dI)) (ci := 1) (v := .ref a_S) (C := "SyntaxTrees$Rules") (T := F_Rules) (N := 9) hx hb hts (fun w h => List.mem_cons_of_mem _ (in_Rules w h)) hown hK.1 hP 3 rfl rfl 0 (by decide +kernel) (hts _ (List.mem_cons_of_mem _ m_80)) (fun _ h9 => h9) rfl d_Rules_open_18 ?_
      refine lv_iload_n hx hb d_Rules_open_21 rfl (lv_at hl 1 rfl) ?_
      obtain ⟨x3, hx3, hf⟩ := x_bd hf
      refine x_wriV (As := [.int p1]) (rest := []) (wc := [(a_S, .inr (0, [.ref a_S_types, .ref a_S_ranks, .ref a_S_typeRanks, .int S_size, .int S_sorts])), (a_S_types, .inl (cI, 1000, .inl S_types)), (a_S_ranks, .inl (cI, 1000, .inl S_ranks))]) (wr := [(a_R, .inr (1, [.ref a_S, .ref a_R_sorts, .ref a_R_all, .ref a_R_firsts, .ref a_R_newestWraps, .ref a_R_olderWraps, .int R_closed, .int R_used, .int R_isOpen])), (a_R_sorts, .inl (cI, 1500, .inl R_sorts))]) (w1 := [(a_S, .inr (0, [.ref a_S_types, .ref a_S_ranks, .ref a_S_typeRanks, .int S_size, .int x3.2.1])), (a_S_types, .inl (cI, 1000, .inl S_types)), (a_S_ranks, .inl (cI, 1000, .inl x3.2.2))]) (wf := [(a_S, .inr (0, [.ref a_S_types, .ref a_S_ranks, .ref a_S_typeRanks, .int S_size, .int x3.2.1])), (a_S_types, .inl (cI, 1000, .inl S_types)), (a_S_ranks, .inl (cI, 1000, .inl x3.2.2)), (a_R, .inr (1, [.ref a_S, .ref a_R_sorts, .ref a_R_all, .ref a_R_firsts, .ref a_R_newestWraps, .ref a_R_olderWraps, .int R_closed, .int R_used, .int R_isOpen])), (a_R_sorts, .inl (cI, 1500, .inl R_sorts))]) ⟨hx, hb, hml, hown, hts⟩ (c_Symbols_becomesSort l dC dI cI cJ cB a_S a_S_types a_S_ranks a_S_typeRanks S_size S_sorts S_types S_ranks p1 s.heap.size n x3 hx3) (cwV 1 hts (x_gV m_226 m_203 m_204 m_43 m_205) rfl rfl rfl hd_Symbols_becomesSort ⟨Nat.le_of_ble_eq_true rfl, Nat.le_of_ble_eq_true rfl⟩) hK hP hD hS hA [0, 1, 2] [3, 4] [2, 3, 4, 0, 1] rfl rfl rfl (by decide +kernel) (by decide +kernel) (by decide +kernel) (by decide +kernel) (ci := 0) (q0 := 0) rfl rfl rfl rfl hl.1 rfl (Nat.le_of_ble_eq_true rfl) d_Rules_open_22 ⟨Nat.le_of_ble_eq_true rfl, Nat.le_of_ble_eq_true rfl⟩ (fun H locs hP hD hS => ?_)
      refine lv_if_ne (tgt := 30) hx hb d_Rules_open_25 (by decide +kernel) (fun c4 => ?_) (fun c4 => ?_)
      · have hf := x_neg c4 hf
        refine lv_aload_n hx hb d_Rules_open_30 rfl (lv_at hl 0 rfl) ?_
        refine va_get (D := (dC, dI)) (ci := 1) (v := .ref a_R_sorts) (C := "SyntaxTrees$Rules") (T := F_Rules) (N := 9) hx hb hts (fun w h => List.mem_cons_of_mem _ (in_Rules w h)) hown hK.1 hP 3 rfl rfl 1 (by decide +kernel) (hts _ (List.mem_cons_of_mem _ m_81)) (fun _ h9 => h9) rfl d_Rules_open_31 ?_
        refine lv_aload_n hx hb d_Rules_open_34 rfl (lv_at hl 0 rfl) ?_
        refine va_get (D := (dC, dI)) (ci := 1) (v := .int R_closed) (C := "SyntaxTrees$Rules") (T := F_Rules) (N := 9) hx hb hts (fun w h => List.mem_cons_of_mem _ (in_Rules w h)) hown hK.1 hP 3 rfl rfl 6 (by decide +kernel) (hts _ (List.mem_cons_of_mem _ m_86)) (fun _ h9 => h9) rfl d_Rules_open_35 ?_
        refine lv_iload_n hx hb d_Rules_open_38 rfl (lv_at hl 1 rfl) ?_
        obtain ⟨h5, hf⟩ := x_gd hf
        refine x_iast (w1 := [(a_S, .inr (0, [.ref a_S_types, .ref a_S_ranks, .ref a_S_typeRanks, .int S_size, .int x3.2.1])), (a_S_types, .inl (cI, 1000, .inl S_types)), (a_S_ranks, .inl (cI, 1000, .inl x3.2.2)), (a_R, .inr (1, [.ref a_S, .ref a_R_sorts, .ref a_R_all, .ref a_R_firsts, .ref a_R_newestWraps, .ref a_R_olderWraps, .int R_closed, .int R_used, .int R_isOpen])), (a_R_sorts, .inl (cI, 1500, .inl (upd R_sorts R_closed.toNatClampNeg p1)))]) hx hb hK.1 hP hD hS 4 0 rfl rfl h5 d_Rules_open_39 rfl (fun H locs hP hD hS => ?_)
        refine lv_aload_n hx hb d_Rules_open_40 rfl (lv_at hl 0 rfl) ?_
        refine lv_iconst (v := (1 : Int32)) hx hb d_Rules_open_41 (by decide +kernel) ?_
        refine x_put (D := (dC, dI)) (ci := 1) (v := .int (1 : Int32)) (ty := .boolean) (C := "SyntaxTrees$Rules") (T := F_Rules) (N := 9) (w1 := [(a_S, .inr (0, [.ref a_S_types, .ref a_S_ranks, .ref a_S_typeRanks, .int S_size, .int x3.2.1])), (a_S_types, .inl (cI, 1000, .inl S_types)), (a_S_ranks, .inl (cI, 1000, .inl x3.2.2)), (a_R, .inr (1, [.ref a_S, .ref a_R_sorts, .ref a_R_all, .ref a_R_firsts, .ref a_R_newestWraps, .ref a_R_olderWraps, .int R_closed, .int R_used, .int (1 : Int32)])), (a_R_sorts, .inl (cI, 1500, .inl (upd R_sorts R_closed.toNatClampNeg p1)))]) hx hb hts (fun w h => List.mem_cons_of_mem _ (in_Rules w h)) t_Rules t_Rules_ok n_Rules hown hK.1 hP hD hS 3 rfl rfl 8 (by decide +kernel) (hts _ (List.mem_cons_of_mem _ m_88)) (fun _ h9 => h9) rfl (by decide +kernel) rfl rfl (Nat.le_of_ble_eq_true rfl) d_Rules_open_42 rfl (fun H locs hP hD hS => ?_)
        refine lv_aload_n hx hb d_Rules_open_45 rfl (lv_at hl 0 rfl) ?_
        refine va_get (D := (dC, dI)) (ci := 1) (v := .int R_closed) (C := "SyntaxTrees$Rules") (T := F_Rules) (N := 9) hx hb hts (fun w h => List.mem_cons_of_mem _ (in_Rules w h)) hown hK.1 hP 3 rfl rfl 6 (by decide +kernel) (hts _ (List.mem_cons_of_mem _ m_86)) (fun _ h9 => h9) rfl d_Rules_open_46 ?_
        cases hf
        subst hQ
        exact W.iret hx hb hr (fun t ht _ => ⟨⟨_, (), rfl, rfl, by rw [ht]; exact hP, hD⟩, hS.F ht⟩) hS.2.2 d_Rules_open_49
      · have hf := x_pos c4 hf
        refine lv_iconst (v := (-1 : Int32)) hx hb d_Rules_open_28 (by decide +kernel) ?_
        cases hf
        subst hQ
        exact W.iret hx hb hr (fun t ht _ => ⟨⟨_, (), rfl, rfl, by rw [ht]; exact hP, hD⟩, hS.F ht⟩) hS.2.2 d_Rules_open_29
set_option maxHeartbeats 4000000 in
set_option maxRecDepth 100000 in
theorem c_Rules_linkWrap (l : Launch) (dC : Nat → ClassId) (dI : Nat → Nat → Nat) (cI cJ cB : ClassId) (a_R a_S a_R_sorts a_R_all a_R_firsts a_R_newestWraps a_R_olderWraps : Nat)  (R_closed : Int32) (R_used : Int32) (R_isOpen : Int32) (R_newestWraps : Nat → Int32) (R_olderWraps : Nat → Int32) (p1 : Int32) (sz : Nat) (n : Nat) (o : (Nat → Int32) × (Nat → Int32)) (hf : f_Rules_linkWrap n R_closed R_newestWraps R_olderWraps p1 = some o) : Met l y_Rules_linkWrap w_Rules_linkWrap ({ frames := 1, cells := 0, slots := 0, locals := 20 }) (va_Pc [.ref a_R, .int p1] (fun U => U.heap.size = sz ∧ va_P (dC, dI) vwCl [(a_R, .inr (1, [.ref a_S, .ref a_R_sorts, .ref a_R_all, .ref a_R_firsts, .ref a_R_newestWraps, .ref a_R_olderWraps, .int R_closed, .int R_used, .int R_isOpen])), (a_R_newestWraps, .inl (cI, 100, .inl R_newestWraps)), (a_R_olderWraps, .inl (cI, 1500, .inl R_olderWraps))] U.heap ∧ x_K (dC, dI) [(cI, .int), (cJ, .long), (cB, .byte)] U ∧ va_D (fun _ => True) [(a_R, .inr (1, [.ref a_S, .ref a_R_sorts, .ref a_R_all, .ref a_R_firsts, .ref a_R_newestWraps, .ref a_R_olderWraps, .int R_closed, .int R_used, .int R_isOpen])), (a_R_newestWraps, .inl (cI, 100, .inl R_newestWraps)), (a_R_olderWraps, .inl (cI, 1500, .inl R_olderWraps))])) (va_Qv (fun (_ : Unit) => True) (fun _ t => va_P (dC, dI) vwCl [(a_R, .inr (1, [.ref a_S, .ref a_R_sorts, .ref a_R_all, .ref a_R_firsts, .ref a_R_newestWraps, .ref a_R_olderWraps, .int R_closed, .int R_used, .int R_isOpen])), (a_R_newestWraps, .inl (cI, 100, .inl o.1)), (a_R_olderWraps, .inl (cI, 1500, .inl o.2))] t.heap ∧ va_D (va_A [(a_R, .inr (1, [.ref a_S, .ref a_R_sorts, .ref a_R_all, .ref a_R_firsts, .ref a_R_newestWraps, .ref a_R_olderWraps, .int R_closed, .int R_used, .int R_isOpen])), (a_R_newestWraps, .inl (cI, 100, .inl R_newestWraps)), (a_R_olderWraps, .inl (cI, 1500, .inl R_olderWraps))] sz) [(a_R, .inr (1, [.ref a_S, .ref a_R_sorts, .ref a_R_all, .ref a_R_firsts, .ref a_R_newestWraps, .ref a_R_olderWraps, .int R_closed, .int R_used, .int R_isOpen])), (a_R_newestWraps, .inl (cI, 100, .inl o.1)), (a_R_olderWraps, .inl (cI, 1500, .inl o.2))]) (va_A [(a_R, .inr (1, [.ref a_S, .ref a_R_sorts, .ref a_R_all, .ref a_R_firsts, .ref a_R_newestWraps, .ref a_R_olderWraps, .int R_closed, .int R_used, .int R_isOpen])), (a_R_newestWraps, .inl (cI, 100, .inl R_newestWraps)), (a_R_olderWraps, .inl (cI, 1500, .inl R_olderWraps))] sz)) 0 0 (va_A [(a_R, .inr (1, [.ref a_S, .ref a_R_sorts, .ref a_R_all, .ref a_R_firsts, .ref a_R_newestWraps, .ref a_R_olderWraps, .int R_closed, .int R_used, .int R_isOpen])), (a_R_newestWraps, .inl (cI, 100, .inl R_newestWraps)), (a_R_olderWraps, .inl (cI, 1500, .inl R_olderWraps))] sz) := by
  refine Met.ofW (cc := b_Rules_linkWrap) (maxL := 2) (ret := none) (by decide +kernel) rfl ?_
  intro p e s m args below meth c s₁ B hml hv
  obtain ⟨rfl, hsz, hP, hK, hD0⟩ := hv
  have hx := B.exec
  have hb := B.bytes
  have hr := B.returns
  have hts := atoms_spec (ws := w_Rules_linkWrap) B.pre
  have hown : s.vm.findClass "SyntaxTrees$Rules" = some m.cls := findClass_of_methodNamed B.named
  have hlocks := B.notSynchronized
  subst hsz
  have hD := hD0.self (sz := s.heap.size)
  generalize hAe : va_A [(a_R, .inr (1, [.ref a_S, .ref a_R_sorts, .ref a_R_all, .ref a_R_firsts, .ref a_R_newestWraps, .ref a_R_olderWraps, .int R_closed, .int R_used, .int R_isOpen])), (a_R_newestWraps, .inl (cI, 100, .inl R_newestWraps)), (a_R_olderWraps, .inl (cI, 1500, .inl R_olderWraps))] s.heap.size = A at hD ⊢
  have hA : ∀ q : Nat, s.heap.size ≤ q → A q := fun q h => by rw [← hAe]; exact Or.inr h
  have hS : va_S A s.heap s.heap [] := va_S.rf
  have hP : va_P (dC, dI) vwCl [(a_R, .inr (1, [.ref a_S, .ref a_R_sorts, .ref a_R_all, .ref a_R_firsts, .ref a_R_newestWraps, .ref a_R_olderWraps, .int R_closed, .int R_used, .int R_isOpen])), (a_R_newestWraps, .inl (cI, 100, .inl R_newestWraps)), (a_R_olderWraps, .inl (cI, 1500, .inl R_olderWraps))] s.heap := hP
  have hl := lv_entry ([.ref a_R, .int p1]) (n := 2) (Nat.le_of_ble_eq_true rfl)
  rw [lg_entry_eq]
  generalize (lg_sl ([.ref a_R, .int p1]) ++ List.replicate (2 - (lg_sl ([.ref a_R, .int p1])).length) Slot.unset).toArray = ls at hl ⊢
  have hl : lv_has ls 2 [(0, .ref a_R), (1, .int p1)] := hl
  refine x_Q (fun Q hQ => ?_)
  unfold f_Rules_linkWrap at hf
  refine lv_iload_n hx hb d_Rules_linkWrap_0 rfl (lv_at hl 1 rfl) ?_
  obtain ⟨x1, hx1, hf⟩ := x_bd hf
  refine x_rdiSN (As := [.int p1]) (rest := []) (wc := []) ⟨hx, hb, hml, hown, hts⟩ (c_Top_isRank l dC dI cI cJ cB p1 n x1 hx1) ⟨va_cnB 1 hts (x_gC m_262) rfl rfl rfl (hK.2 _ nx_Rules_51) (hts _ (List.mem_cons_of_mem _ m_42)) hd_Top_isRank.2 ⟨Nat.le_of_ble_eq_true rfl, Nat.le_of_ble_eq_true rfl⟩, (hts _ (List.mem_cons_of_mem _ m_261)), trivial⟩ hK hP [] rfl rfl hl.1 rfl (Nat.le_of_ble_eq_true rfl) d_Rules_linkWrap_1 ⟨Nat.le_of_ble_eq_true rfl, Nat.le_of_ble_eq_true rfl⟩ ?_
  refine lv_if_eq (tgt := 32) hx hb d_Rules_linkWrap_4 (by decide +kernel) (fun c2 => ?_) (fun c2 => ?_)
  · have hf := x_pos c2 hf
    cases hf
    subst hQ
    exact W.vret hx hb hr (fun t ht _ => ⟨⟨(), rfl, trivial, by rw [ht]; exact hP, hD⟩, hS.F ht⟩) hS.2.2 d_Rules_linkWrap_32
  · have hf := x_neg c2 hf
    refine lv_aload_n hx hb d_Rules_linkWrap_7 rfl (lv_at hl 0 rfl) ?_
    refine va_get (D := (dC, dI)) (ci := 1) (v := .ref a_R_olderWraps) (C := "SyntaxTrees$Rules") (T := F_Rules) (N := 9) hx hb hts (fun w h => List.mem_cons_of_mem _ (in_Rules w h)) hown hK.1 hP 0 rfl rfl 5 (by decide +kernel) (hts _ (List.mem_cons_of_mem _ m_85)) (fun _ h9 => h9) rfl d_Rules_linkWrap_8 ?_
    refine lv_aload_n hx hb d_Rules_linkWrap_11 rfl (lv_at hl 0 rfl) ?_
    refine va_get (D := (dC, dI)) (ci := 1) (v := .int R_closed) (C := "SyntaxTrees$Rules") (T := F_Rules) (N := 9) hx hb hts (fun w h => List.mem_cons_of_mem _ (in_Rules w h)) hown hK.1 hP 0 rfl rfl 6 (by decide +kernel) (hts _ (List.mem_cons_of_mem _ m_86)) (fun _ h9 => h9) rfl d_Rules_linkWrap_12 ?_
    refine lv_aload_n hx hb d_Rules_linkWrap_15 rfl (lv_at hl 0 rfl) ?_
    refine va_get (D := (dC, dI)) (ci := 1) (v := .ref a_R_newestWraps) (C := "SyntaxTrees$Rules") (T := F_Rules) (N := 9) hx hb hts (fun w h => List.mem_cons_of_mem _ (in_Rules w h)) hown hK.1 hP 0 rfl rfl 4 (by decide +kernel) (hts _ (List.mem_cons_of_mem _ m_84)) (fun _ h9 => h9) rfl d_Rules_linkWrap_16 ?_
    refine lv_iload_n hx hb d_Rules_linkWrap_19 rfl (lv_at hl 1 rfl) ?_
    obtain ⟨h3, hf⟩ := x_gd hf
    refine va_iald hx hb hK.1 hP 1 0 rfl rfl h3 d_Rules_linkWrap_20 ?_
    obtain ⟨h4, hf⟩ := x_gd hf
    refine x_iast (w1 := [(a_R, .inr (1, [.ref a_S, .ref a_R_sorts, .ref a_R_all, .ref a_R_firsts, .ref a_R_newestWraps, .ref a_R_olderWraps, .int R_closed, .int R_used, .int R_isOpen])), (a_R_newestWraps, .inl (cI, 100, .inl R_newestWraps)), (a_R_olderWraps, .inl (cI, 1500, .inl (upd R_olderWraps R_closed.toNatClampNeg (R_newestWraps p1.toNatClampNeg))))]) hx hb hK.1 hP hD hS 2 0 rfl rfl h4 d_Rules_linkWrap_21 rfl (fun H locs hP hD hS => ?_)
    refine lv_aload_n hx hb d_Rules_linkWrap_22 rfl (lv_at hl 0 rfl) ?_
    refine va_get (D := (dC, dI)) (ci := 1) (v := .ref a_R_newestWraps) (C := "SyntaxTrees$Rules") (T := F_Rules) (N := 9) hx hb hts (fun w h => List.mem_cons_of_mem _ (in_Rules w h)) hown hK.1 hP 0 rfl rfl 4 (by decide +kernel) (hts _ (List.mem_cons_of_mem _ m_84)) (fun _ h9 => h9) rfl d_Rules_linkWrap_23 ?_
    refine lv_iload_n hx hb d_Rules_linkWrap_26 rfl (lv_at hl 1 rfl) ?_
    refine lv_aload_n hx hb d_Rules_linkWrap_27 rfl (lv_at hl 0 rfl) ?_
    refine va_get (D := (dC, dI)) (ci := 1) (v := .int R_closed) (C := "SyntaxTrees$Rules") (T := F_Rules) (N := 9) hx hb hts (fun w h => List.mem_cons_of_mem _ (in_Rules w h)) hown hK.1 hP 0 rfl rfl 6 (by decide +kernel) (hts _ (List.mem_cons_of_mem _ m_86)) (fun _ h9 => h9) rfl d_Rules_linkWrap_28 ?_
    obtain ⟨h5, hf⟩ := x_gd hf
    refine x_iast (w1 := [(a_R, .inr (1, [.ref a_S, .ref a_R_sorts, .ref a_R_all, .ref a_R_firsts, .ref a_R_newestWraps, .ref a_R_olderWraps, .int R_closed, .int R_used, .int R_isOpen])), (a_R_newestWraps, .inl (cI, 100, .inl (upd R_newestWraps p1.toNatClampNeg R_closed))), (a_R_olderWraps, .inl (cI, 1500, .inl (upd R_olderWraps R_closed.toNatClampNeg (R_newestWraps p1.toNatClampNeg))))]) hx hb hK.1 hP hD hS 1 0 rfl rfl h5 d_Rules_linkWrap_31 rfl (fun H locs hP hD hS => ?_)
    cases hf
    subst hQ
    exact W.vret hx hb hr (fun t ht _ => ⟨⟨(), rfl, trivial, by rw [ht]; exact hP, hD⟩, hS.F ht⟩) hS.2.2 d_Rules_linkWrap_32
set_option maxHeartbeats 4000000 in
set_option maxRecDepth 100000 in
theorem c_Rules_openLength (l : Launch) (dC : Nat → ClassId) (dI : Nat → Nat → Nat) (cI cJ cB : ClassId) (a_R a_S a_R_sorts a_R_all a_R_firsts a_R_newestWraps a_R_olderWraps : Nat)  (R_closed : Int32) (R_used : Int32) (R_isOpen : Int32) (R_firsts : Nat → Int32)  (n : Nat) (o : Int32) (hf : f_Rules_openLength n R_closed R_used R_firsts = some o) : Met l y_Rules_openLength w_Rules_openLength ({ frames := 0, cells := 0, slots := 0, locals := 0 }) (va_Pc [.ref a_R] (fun U => va_P (dC, dI) vwCl [(a_R, .inr (1, [.ref a_S, .ref a_R_sorts, .ref a_R_all, .ref a_R_firsts, .ref a_R_newestWraps, .ref a_R_olderWraps, .int R_closed, .int R_used, .int R_isOpen])), (a_R_firsts, .inl (cI, 1501, .inl R_firsts))] U.heap ∧ x_K (dC, dI) [(cI, .int), (cJ, .long), (cB, .byte)] U)) (QcRead o) 0 0 (fun _ => False) := by
  refine Met.ofW (cc := b_Rules_openLength) (maxL := 1) (ret := (some .int)) (by decide +kernel) rfl ?_
  intro p e s m args below meth c s₁ B hml hv
  obtain ⟨rfl, hP, hK⟩ := hv
  have hx := B.exec
  have hb := B.bytes
  have hr := B.returns
  have hts := atoms_spec (ws := w_Rules_openLength) B.pre
  have hown : s.vm.findClass "SyntaxTrees$Rules" = some m.cls := findClass_of_methodNamed B.named
  have hlocks := B.notSynchronized
  have hP : va_P (dC, dI) vwCl [(a_R, .inr (1, [.ref a_S, .ref a_R_sorts, .ref a_R_all, .ref a_R_firsts, .ref a_R_newestWraps, .ref a_R_olderWraps, .int R_closed, .int R_used, .int R_isOpen])), (a_R_firsts, .inl (cI, 1501, .inl R_firsts))] s.heap := hP
  have hl := lv_entry ([.ref a_R]) (n := 1) (Nat.le_of_ble_eq_true rfl)
  rw [lg_entry_eq]
  generalize (lg_sl ([.ref a_R]) ++ List.replicate (1 - (lg_sl ([.ref a_R])).length) Slot.unset).toArray = ls at hl ⊢
  have hl : lv_has ls 1 [(0, .ref a_R)] := hl
  refine x_Q (fun Q hQ => ?_)
  unfold f_Rules_openLength at hf
  refine lv_aload_n hx hb d_Rules_openLength_0 rfl (lv_at hl 0 rfl) ?_
  refine va_get (D := (dC, dI)) (ci := 1) (v := .int R_used) (C := "SyntaxTrees$Rules") (T := F_Rules) (N := 9) hx hb hts (fun w h => List.mem_cons_of_mem _ (in_Rules w h)) hown hK.1 hP 0 rfl rfl 7 (by decide +kernel) (hts _ (List.mem_cons_of_mem _ m_87)) (fun _ h9 => h9) rfl d_Rules_openLength_1 ?_
  refine lv_aload_n hx hb d_Rules_openLength_4 rfl (lv_at hl 0 rfl) ?_
  refine va_get (D := (dC, dI)) (ci := 1) (v := .ref a_R_firsts) (C := "SyntaxTrees$Rules") (T := F_Rules) (N := 9) hx hb hts (fun w h => List.mem_cons_of_mem _ (in_Rules w h)) hown hK.1 hP 0 rfl rfl 3 (by decide +kernel) (hts _ (List.mem_cons_of_mem _ m_83)) (fun _ h9 => h9) rfl d_Rules_openLength_5 ?_
  refine lv_aload_n hx hb d_Rules_openLength_8 rfl (lv_at hl 0 rfl) ?_
  refine va_get (D := (dC, dI)) (ci := 1) (v := .int R_closed) (C := "SyntaxTrees$Rules") (T := F_Rules) (N := 9) hx hb hts (fun w h => List.mem_cons_of_mem _ (in_Rules w h)) hown hK.1 hP 0 rfl rfl 6 (by decide +kernel) (hts _ (List.mem_cons_of_mem _ m_86)) (fun _ h9 => h9) rfl d_Rules_openLength_9 ?_
  obtain ⟨h1, hf⟩ := x_gd hf
  refine va_iald hx hb hK.1 hP 1 0 rfl rfl h1 d_Rules_openLength_12 ?_
  refine lv_isub hx hb d_Rules_openLength_13 ?_
  cases hf
  subst hQ
  exact W.iret hx hb hr (fun t ht _ => ⟨rfl, ht⟩) (fun _ h => absurd h List.not_mem_nil) d_Rules_openLength_14
set_option maxHeartbeats 4000000 in
set_option maxRecDepth 100000 in
theorem w_Rules_openHas_L10 {p : Program} {l : Launch} {e : Env} {s : State} {m : MethodId} {args : Array Value} {below : List Frame} {meth : Method} {c : Code} {dC : Nat → ClassId} {dI : Nat → Nat → Nat} {cI cJ cB : ClassId} {a_R a_S a_R_sorts a_R_all a_R_firsts a_R_newestWraps a_R_olderWraps : Nat} {H : Heap} {locs : List Loc} {Q : State → Prop} (n : Nat) (v1 : Int32) (R_closed : Int32) (R_used : Int32) (R_isOpen : Int32) (R_all : Nat → Int32) (R_firsts : Nat → Int32) (hx : p.tables.exec = Jvm.exec) (hb : c.code = b_Rules_openHas) (hml : c.maxLocals = 3) (hown : s.vm.findClass "SyntaxTrees$Rules" = some m.cls) (hts : ∀ w ∈ w_Rules_openHas, w.before args s = true) (hK : x_K (dC, dI) [(cI, .int), (cJ, .long), (cB, .byte)] s) (hr : meth.sig.returnType = some .boolean) (hlocks : meth.locks = false) (hP : va_P (dC, dI) vwCl [(a_R, .inr (1, [.ref a_S, .ref a_R_sorts, .ref a_R_all, .ref a_R_firsts, .ref a_R_newestWraps, .ref a_R_olderWraps, .int R_closed, .int R_used, .int R_isOpen])), (a_R_all, .inl (cI, 30000, .inl R_all)), (a_R_firsts, .inl (cI, 1501, .inl R_firsts))] H) (hH : H = s.heap) (hlc : locs = []) : ∀ (k : Nat) (v2 : Int32) (o : Int32) (ls : Array Slot), Q = MQ below (QcRead o) args s 0 0 (fun _ => False) → f_Rules_openHas_L10 n v1 R_used R_all k v2 = some o → lv_has ls 3 [(2, .int v2), (0, .ref a_R), (1, .int v1)] → W p l e ({ frames := 0, cells := 0, slots := 0, locals := 0 }) s m args below meth c H locs 0 0 Q (F0 m 10 ls []) := by
  subst hH
  subst hlc
  intro k
  induction k with
  | zero =>
    intro v2 o ls hQ hf
    exact absurd hf (by simp [f_Rules_openHas_L10])
  | succ k ih =>
    intro v2 o ls hQ hf hl
    rw [f_Rules_openHas_L10] at hf
    refine lv_iload_n hx hb d_Rules_openHas_10 rfl (lv_at hl 0 rfl) ?_
    refine lv_aload_n hx hb d_Rules_openHas_11 rfl (lv_at hl 1 rfl) ?_
    refine va_get (D := (dC, dI)) (ci := 1) (v := .int R_used) (C := "SyntaxTrees$Rules") (T := F_Rules) (N := 9) hx hb hts (fun w h => List.mem_cons_of_mem _ (in_Rules w h)) hown hK.1 hP 0 rfl rfl 7 (by decide +kernel) (hts _ (List.mem_cons_of_mem _ m_87)) (fun _ h9 => h9) rfl d_Rules_openHas_12 ?_
    refine lv_icmp_ge (tgt := 36) hx hb d_Rules_openHas_15 (by decide +kernel) (fun c1 => ?_) (fun c1 => ?_)
    · have hf := x_pos c1 hf
      refine lv_iconst (v := (0 : Int32)) hx hb d_Rules_openHas_36 (by decide +kernel) ?_
      cases hf
      subst hQ
      exact W.zret hx hb hr rfl (fun t ht _ => ⟨rfl, ht⟩) (fun _ h => absurd h List.not_mem_nil) d_Rules_openHas_37
    · have hf := x_neg c1 hf
      refine lv_aload_n hx hb d_Rules_openHas_18 rfl (lv_at hl 1 rfl) ?_
      refine va_get (D := (dC, dI)) (ci := 1) (v := .ref a_R_all) (C := "SyntaxTrees$Rules") (T := F_Rules) (N := 9) hx hb hts (fun w h => List.mem_cons_of_mem _ (in_Rules w h)) hown hK.1 hP 0 rfl rfl 2 (by decide +kernel) (hts _ (List.mem_cons_of_mem _ m_82)) (fun _ h9 => h9) rfl d_Rules_openHas_19 ?_
      refine lv_iload_n hx hb d_Rules_openHas_22 rfl (lv_at hl 0 rfl) ?_
      obtain ⟨h2, hf⟩ := x_gd hf
      refine va_iald hx hb hK.1 hP 1 0 rfl rfl h2 d_Rules_openHas_23 ?_
      refine lv_iload_n hx hb d_Rules_openHas_24 rfl (lv_at hl 2 rfl) ?_
      refine lv_icmp_ne (tgt := 30) hx hb d_Rules_openHas_25 (by decide +kernel) (fun c3 => ?_) (fun c3 => ?_)
      · have hf := x_neg c3 hf
        refine lv_iinc (v := (v2 + (1 : Int32))) (lv' := [(2, .int (v2 + (1 : Int32))), (0, .ref a_R), (1, .int v1)]) hx hb d_Rules_openHas_30 hl (k := 0) rfl rfl (by decide +kernel) rfl (fun ls hl => ?_)
        refine lv_goto (tgt := 10) hx hb d_Rules_openHas_33 (by decide +kernel) ?_
        exact ih (v2 + (1 : Int32)) o ls hQ hf (lv_sub hl [0, 1, 2] rfl)
      · have hf := x_pos c3 hf
        refine lv_iconst (v := (1 : Int32)) hx hb d_Rules_openHas_28 (by decide +kernel) ?_
        cases hf
        subst hQ
        exact W.zret hx hb hr rfl (fun t ht _ => ⟨rfl, ht⟩) (fun _ h => absurd h List.not_mem_nil) d_Rules_openHas_29
set_option maxHeartbeats 4000000 in
set_option maxRecDepth 100000 in
theorem c_Rules_openHas (l : Launch) (dC : Nat → ClassId) (dI : Nat → Nat → Nat) (cI cJ cB : ClassId) (a_R a_S a_R_sorts a_R_all a_R_firsts a_R_newestWraps a_R_olderWraps : Nat)  (R_closed : Int32) (R_used : Int32) (R_isOpen : Int32) (R_all : Nat → Int32) (R_firsts : Nat → Int32) (p1 : Int32) (n : Nat) (o : Int32) (hf : f_Rules_openHas n R_closed R_used R_all R_firsts p1 = some o) : Met l y_Rules_openHas w_Rules_openHas ({ frames := 0, cells := 0, slots := 0, locals := 0 }) (va_Pc [.ref a_R, .int p1] (fun U => va_P (dC, dI) vwCl [(a_R, .inr (1, [.ref a_S, .ref a_R_sorts, .ref a_R_all, .ref a_R_firsts, .ref a_R_newestWraps, .ref a_R_olderWraps, .int R_closed, .int R_used, .int R_isOpen])), (a_R_all, .inl (cI, 30000, .inl R_all)), (a_R_firsts, .inl (cI, 1501, .inl R_firsts))] U.heap ∧ x_K (dC, dI) [(cI, .int), (cJ, .long), (cB, .byte)] U)) (QcRead o) 0 0 (fun _ => False) := by
  refine Met.ofW (cc := b_Rules_openHas) (maxL := 3) (ret := (some .boolean)) (by decide +kernel) rfl ?_
  intro p e s m args below meth c s₁ B hml hv
  obtain ⟨rfl, hP, hK⟩ := hv
  have hx := B.exec
  have hb := B.bytes
  have hr := B.returns
  have hts := atoms_spec (ws := w_Rules_openHas) B.pre
  have hown : s.vm.findClass "SyntaxTrees$Rules" = some m.cls := findClass_of_methodNamed B.named
  have hlocks := B.notSynchronized
  have hP : va_P (dC, dI) vwCl [(a_R, .inr (1, [.ref a_S, .ref a_R_sorts, .ref a_R_all, .ref a_R_firsts, .ref a_R_newestWraps, .ref a_R_olderWraps, .int R_closed, .int R_used, .int R_isOpen])), (a_R_all, .inl (cI, 30000, .inl R_all)), (a_R_firsts, .inl (cI, 1501, .inl R_firsts))] s.heap := hP
  have hl := lv_entry ([.ref a_R, .int p1]) (n := 3) (Nat.le_of_ble_eq_true rfl)
  rw [lg_entry_eq]
  generalize (lg_sl ([.ref a_R, .int p1]) ++ List.replicate (3 - (lg_sl ([.ref a_R, .int p1])).length) Slot.unset).toArray = ls at hl ⊢
  have hl : lv_has ls 3 [(0, .ref a_R), (1, .int p1)] := hl
  refine x_Q (fun Q hQ => ?_)
  unfold f_Rules_openHas at hf
  refine lv_aload_n hx hb d_Rules_openHas_0 rfl (lv_at hl 0 rfl) ?_
  refine va_get (D := (dC, dI)) (ci := 1) (v := .ref a_R_firsts) (C := "SyntaxTrees$Rules") (T := F_Rules) (N := 9) hx hb hts (fun w h => List.mem_cons_of_mem _ (in_Rules w h)) hown hK.1 hP 0 rfl rfl 3 (by decide +kernel) (hts _ (List.mem_cons_of_mem _ m_83)) (fun _ h9 => h9) rfl d_Rules_openHas_1 ?_
  refine lv_aload_n hx hb d_Rules_openHas_4 rfl (lv_at hl 0 rfl) ?_
  refine va_get (D := (dC, dI)) (ci := 1) (v := .int R_closed) (C := "SyntaxTrees$Rules") (T := F_Rules) (N := 9) hx hb hts (fun w h => List.mem_cons_of_mem _ (in_Rules w h)) hown hK.1 hP 0 rfl rfl 6 (by decide +kernel) (hts _ (List.mem_cons_of_mem _ m_86)) (fun _ h9 => h9) rfl d_Rules_openHas_5 ?_
  obtain ⟨h1, hf⟩ := x_gd hf
  refine va_iald hx hb hK.1 hP 2 0 rfl rfl h1 d_Rules_openHas_8 ?_
  refine lv_istore_n (lv' := [(2, .int (R_firsts R_closed.toNatClampNeg)), (0, .ref a_R), (1, .int p1)]) hx hb d_Rules_openHas_9 rfl hl (by decide +kernel) rfl (fun ls hl => ?_)
  exact w_Rules_openHas_L10 n p1 R_closed R_used R_isOpen R_all R_firsts hx hb hml hown hts hK hr hlocks hP rfl rfl n (R_firsts R_closed.toNatClampNeg) o ls hQ hf (lv_sub hl [0, 1, 2] rfl)
set_option maxHeartbeats 4000000 in
set_option maxRecDepth 100000 in
theorem c_Rules_lengthen (l : Launch) (dC : Nat → ClassId) (dI : Nat → Nat → Nat) (cI cJ cB : ClassId) (a_S a_S_types a_S_ranks a_S_typeRanks a_R a_R_sorts a_R_all a_R_firsts a_R_newestWraps a_R_olderWraps : Nat)  (S_size : Int32) (S_sorts : Int32) (S_types : Nat → Int32) (R_closed : Int32) (R_used : Int32) (R_isOpen : Int32) (R_all : Nat → Int32) (R_firsts : Nat → Int32) (p1 : Int32) (sz : Nat) (n : Nat) (o : Int32 × Int32 × (Nat → Int32)) (hf : f_Rules_lengthen n S_size S_types R_closed R_used R_isOpen R_all R_firsts p1 = some o) : Met l y_Rules_lengthen w_Rules_lengthen ({ frames := 2, cells := 0, slots := 0, locals := 42 }) (va_Pc [.ref a_R, .int p1] (fun U => U.heap.size = sz ∧ va_P (dC, dI) vwCl [(a_S, .inr (0, [.ref a_S_types, .ref a_S_ranks, .ref a_S_typeRanks, .int S_size, .int S_sorts])), (a_S_types, .inl (cI, 1000, .inl S_types)), (a_R, .inr (1, [.ref a_S, .ref a_R_sorts, .ref a_R_all, .ref a_R_firsts, .ref a_R_newestWraps, .ref a_R_olderWraps, .int R_closed, .int R_used, .int R_isOpen])), (a_R_all, .inl (cI, 30000, .inl R_all)), (a_R_firsts, .inl (cI, 1501, .inl R_firsts))] U.heap ∧ x_K (dC, dI) [(cI, .int), (cJ, .long), (cB, .byte)] U ∧ va_D (fun _ => True) [(a_S, .inr (0, [.ref a_S_types, .ref a_S_ranks, .ref a_S_typeRanks, .int S_size, .int S_sorts])), (a_S_types, .inl (cI, 1000, .inl S_types)), (a_R, .inr (1, [.ref a_S, .ref a_R_sorts, .ref a_R_all, .ref a_R_firsts, .ref a_R_newestWraps, .ref a_R_olderWraps, .int R_closed, .int R_used, .int R_isOpen])), (a_R_all, .inl (cI, 30000, .inl R_all)), (a_R_firsts, .inl (cI, 1501, .inl R_firsts))])) (va_Qi (fun r (_ : Unit) => r = o.1) (fun _ t => va_P (dC, dI) vwCl [(a_S, .inr (0, [.ref a_S_types, .ref a_S_ranks, .ref a_S_typeRanks, .int S_size, .int S_sorts])), (a_S_types, .inl (cI, 1000, .inl S_types)), (a_R, .inr (1, [.ref a_S, .ref a_R_sorts, .ref a_R_all, .ref a_R_firsts, .ref a_R_newestWraps, .ref a_R_olderWraps, .int R_closed, .int o.2.1, .int R_isOpen])), (a_R_all, .inl (cI, 30000, .inl o.2.2)), (a_R_firsts, .inl (cI, 1501, .inl R_firsts))] t.heap ∧ va_D (va_A [(a_S, .inr (0, [.ref a_S_types, .ref a_S_ranks, .ref a_S_typeRanks, .int S_size, .int S_sorts])), (a_S_types, .inl (cI, 1000, .inl S_types)), (a_R, .inr (1, [.ref a_S, .ref a_R_sorts, .ref a_R_all, .ref a_R_firsts, .ref a_R_newestWraps, .ref a_R_olderWraps, .int R_closed, .int R_used, .int R_isOpen])), (a_R_all, .inl (cI, 30000, .inl R_all)), (a_R_firsts, .inl (cI, 1501, .inl R_firsts))] sz) [(a_S, .inr (0, [.ref a_S_types, .ref a_S_ranks, .ref a_S_typeRanks, .int S_size, .int S_sorts])), (a_S_types, .inl (cI, 1000, .inl S_types)), (a_R, .inr (1, [.ref a_S, .ref a_R_sorts, .ref a_R_all, .ref a_R_firsts, .ref a_R_newestWraps, .ref a_R_olderWraps, .int R_closed, .int o.2.1, .int R_isOpen])), (a_R_all, .inl (cI, 30000, .inl o.2.2)), (a_R_firsts, .inl (cI, 1501, .inl R_firsts))]) (va_A [(a_S, .inr (0, [.ref a_S_types, .ref a_S_ranks, .ref a_S_typeRanks, .int S_size, .int S_sorts])), (a_S_types, .inl (cI, 1000, .inl S_types)), (a_R, .inr (1, [.ref a_S, .ref a_R_sorts, .ref a_R_all, .ref a_R_firsts, .ref a_R_newestWraps, .ref a_R_olderWraps, .int R_closed, .int R_used, .int R_isOpen])), (a_R_all, .inl (cI, 30000, .inl R_all)), (a_R_firsts, .inl (cI, 1501, .inl R_firsts))] sz)) 0 0 (va_A [(a_S, .inr (0, [.ref a_S_types, .ref a_S_ranks, .ref a_S_typeRanks, .int S_size, .int S_sorts])), (a_S_types, .inl (cI, 1000, .inl S_types)), (a_R, .inr (1, [.ref a_S, .ref a_R_sorts, .ref a_R_all, .ref a_R_firsts, .ref a_R_newestWraps, .ref a_R_olderWraps, .int R_closed, .int R_used, .int R_isOpen])), (a_R_all, .inl (cI, 30000, .inl R_all)), (a_R_firsts, .inl (cI, 1501, .inl R_firsts))] sz) := by
  refine Met.ofW (cc := b_Rules_lengthen) (maxL := 2) (ret := (some .int)) (by decide +kernel) rfl ?_
  intro p e s m args below meth c s₁ B hml hv
  obtain ⟨rfl, hsz, hP, hK, hD0⟩ := hv
  have hx := B.exec
  have hb := B.bytes
  have hr := B.returns
  have hts := atoms_spec (ws := w_Rules_lengthen) B.pre
  have hown : s.vm.findClass "SyntaxTrees$Rules" = some m.cls := findClass_of_methodNamed B.named
  have hlocks := B.notSynchronized
  subst hsz
  have hD := hD0.self (sz := s.heap.size)
  generalize hAe : va_A [(a_S, .inr (0, [.ref a_S_types, .ref a_S_ranks, .ref a_S_typeRanks, .int S_size, .int S_sorts])), (a_S_types, .inl (cI, 1000, .inl S_types)), (a_R, .inr (1, [.ref a_S, .ref a_R_sorts, .ref a_R_all, .ref a_R_firsts, .ref a_R_newestWraps, .ref a_R_olderWraps, .int R_closed, .int R_used, .int R_isOpen])), (a_R_all, .inl (cI, 30000, .inl R_all)), (a_R_firsts, .inl (cI, 1501, .inl R_firsts))] s.heap.size = A at hD ⊢
  have hA : ∀ q : Nat, s.heap.size ≤ q → A q := fun q h => by rw [← hAe]; exact Or.inr h
  have hS : va_S A s.heap s.heap [] := va_S.rf
  have hP : va_P (dC, dI) vwCl [(a_S, .inr (0, [.ref a_S_types, .ref a_S_ranks, .ref a_S_typeRanks, .int S_size, .int S_sorts])), (a_S_types, .inl (cI, 1000, .inl S_types)), (a_R, .inr (1, [.ref a_S, .ref a_R_sorts, .ref a_R_all, .ref a_R_firsts, .ref a_R_newestWraps, .ref a_R_olderWraps, .int R_closed, .int R_used, .int R_isOpen])), (a_R_all, .inl (cI, 30000, .inl R_all)), (a_R_firsts, .inl (cI, 1501, .inl R_firsts))] s.heap := hP
  have hl := lv_entry ([.ref a_R, .int p1]) (n := 2) (Nat.le_of_ble_eq_true rfl)
  rw [lg_entry_eq]
  generalize (lg_sl ([.ref a_R, .int p1]) ++ List.replicate (2 - (lg_sl ([.ref a_R, .int p1])).length) Slot.unset).toArray = ls at hl ⊢
  have hl : lv_has ls 2 [(0, .ref a_R), (1, .int p1)] := hl
  refine x_Q (fun Q hQ => ?_)
  unfold f_Rules_lengthen at hf
  refine lv_aload_n hx hb d_Rules_lengthen_0 rfl (lv_at hl 0 rfl) ?_
  refine va_get (D := (dC, dI)) (ci := 1) (v := .int R_isOpen) (C := "SyntaxTrees$Rules") (T := F_Rules) (N := 9) hx hb hts (fun w h => List.mem_cons_of_mem _ (in_Rules w h)) hown hK.1 hP 2 rfl rfl 8 (by decide +kernel) (hts _ (List.mem_cons_of_mem _ m_88)) (fun _ h9 => h9) rfl d_Rules_lengthen_1 ?_
  refine lv_if_eq (tgt := 27) hx hb d_Rules_lengthen_4 (by decide +kernel) (fun c1 => ?_) (fun c1 => ?_)
  · have hf := x_pos c1 hf
    refine lv_iconst (v := (-1 : Int32)) hx hb d_Rules_lengthen_27 (by decide +kernel) ?_
    cases hf
    subst hQ
    exact W.iret hx hb hr (fun t ht _ => ⟨⟨_, (), rfl, rfl, by rw [ht]; exact hP, hD⟩, hS.F ht⟩) hS.2.2 d_Rules_lengthen_28
  · have hf := x_neg c1 hf
    refine lv_aload_n hx hb d_Rules_lengthen_7 rfl (lv_at hl 0 rfl) ?_
    refine va_get (D := (dC, dI)) (ci := 1) (v := .int R_used) (C := "SyntaxTrees$Rules") (T := F_Rules) (N := 9) hx hb hts (fun w h => List.mem_cons_of_mem _ (in_Rules w h)) hown hK.1 hP 2 rfl rfl 7 (by decide +kernel) (hts _ (List.mem_cons_of_mem _ m_87)) (fun _ h9 => h9) rfl d_Rules_lengthen_8 ?_
    refine lv_sipush (v := (30000 : Int32)) hx hb d_Rules_lengthen_11 (by decide +kernel) ?_
    refine lv_icmp_ge (tgt := 27) hx hb d_Rules_lengthen_14 (by decide +kernel) (fun c2 => ?_) (fun c2 => ?_)
    · have hf := x_pos c2 hf
      refine lv_iconst (v := (-1 : Int32)) hx hb d_Rules_lengthen_27 (by decide +kernel) ?_
      cases hf
      subst hQ
      exact W.iret hx hb hr (fun t ht _ => ⟨⟨_, (), rfl, rfl, by rw [ht]; exact hP, hD⟩, hS.F ht⟩) hS.2.2 d_Rules_lengthen_28
    · have hf := x_neg c2 hf
      refine lv_aload_n hx hb d_Rules_lengthen_17 rfl (lv_at hl 0 rfl) ?_
      obtain ⟨x3, hx3, hf⟩ := x_bd hf
      refine x_rdiV (As := []) (rest := []) (wc := [(a_R, .inr (1, [.ref a_S, .ref a_R_sorts, .ref a_R_all, .ref a_R_firsts, .ref a_R_newestWraps, .ref a_R_olderWraps, .int R_closed, .int R_used, .int R_isOpen])), (a_R_firsts, .inl (cI, 1501, .inl R_firsts))]) ⟨hx, hb, hml, hown, hts⟩ (c_Rules_openLength l dC dI cI cJ cB a_R a_S a_R_sorts a_R_all a_R_firsts a_R_newestWraps a_R_olderWraps R_closed R_used R_isOpen R_firsts n x3 hx3) (cwV 0 hts (x_gV m_235 m_236 m_1 m_44 m_237) rfl rfl rfl hd_Rules_openLength ⟨Nat.le_of_ble_eq_true rfl, Nat.le_of_ble_eq_true rfl⟩) hK hP [2, 4] rfl (ci := 1) (q0 := 0) rfl rfl rfl rfl hl.1 rfl (Nat.le_of_ble_eq_true rfl) d_Rules_lengthen_18 ⟨Nat.le_of_ble_eq_true rfl, Nat.le_of_ble_eq_true rfl⟩ ?_
      refine lv_sipush (v := (299 : Int32)) hx hb d_Rules_lengthen_21 (by decide +kernel) ?_
      refine lv_icmp_lt (tgt := 29) hx hb d_Rules_lengthen_24 (by decide +kernel) (fun c4 => ?_) (fun c4 => ?_)
      · have hf := x_pos c4 hf
        refine lv_aload_n hx hb d_Rules_lengthen_29 rfl (lv_at hl 0 rfl) ?_
        refine va_get (D := (dC, dI)) (ci := 1) (v := .ref a_S) (C := "SyntaxTrees$Rules") (T := F_Rules) (N := 9) hx hb hts (fun w h => List.mem_cons_of_mem _ (in_Rules w h)) hown hK.1 hP 2 rfl rfl 0 (by decide +kernel) (hts _ (List.mem_cons_of_mem _ m_80)) (fun _ h9 => h9) rfl d_Rules_lengthen_30 ?_
        refine lv_iload_n hx hb d_Rules_lengthen_33 rfl (lv_at hl 1 rfl) ?_
        obtain ⟨x5, hx5, hf⟩ := x_bd hf
        refine x_rdiV (As := [.int p1]) (rest := []) (wc := [(a_S, .inr (0, [.ref a_S_types, .ref a_S_ranks, .ref a_S_typeRanks, .int S_size, .int S_sorts]))]) ⟨hx, hb, hml, hown, hts⟩ (c_Symbols_has l dC dI cI cJ cB a_S a_S_types a_S_ranks a_S_typeRanks S_size S_sorts p1 n x5 hx5) (cwV 1 hts (x_gV m_238 m_211 m_212 m_43 m_213) rfl rfl rfl hd_Symbols_has ⟨Nat.le_of_ble_eq_true rfl, Nat.le_of_ble_eq_true rfl⟩) hK hP [0] rfl (ci := 0) (q0 := 0) rfl rfl rfl rfl hl.1 rfl (Nat.le_of_ble_eq_true rfl) d_Rules_lengthen_34 ⟨Nat.le_of_ble_eq_true rfl, Nat.le_of_ble_eq_true rfl⟩ ?_
        refine lv_if_eq (tgt := 59) hx hb d_Rules_lengthen_37 (by decide +kernel) (fun c6 => ?_) (fun c6 => ?_)
        · have hf := x_pos c6 hf
          refine lv_iconst (v := (-1 : Int32)) hx hb d_Rules_lengthen_59 (by decide +kernel) ?_
          cases hf
          subst hQ
          exact W.iret hx hb hr (fun t ht _ => ⟨⟨_, (), rfl, rfl, by rw [ht]; exact hP, hD⟩, hS.F ht⟩) hS.2.2 d_Rules_lengthen_60
        · have hf := x_neg c6 hf
          refine lv_aload_n hx hb d_Rules_lengthen_40 rfl (lv_at hl 0 rfl) ?_
          refine va_get (D := (dC, dI)) (ci := 1) (v := .ref a_S) (C := "SyntaxTrees$Rules") (T := F_Rules) (N := 9) hx hb hts (fun w h => List.mem_cons_of_mem _ (in_Rules w h)) hown hK.1 hP 2 rfl rfl 0 (by decide +kernel) (hts _ (List.mem_cons_of_mem _ m_80)) (fun _ h9 => h9) rfl d_Rules_lengthen_41 ?_
          refine lv_iload_n hx hb d_Rules_lengthen_44 rfl (lv_at hl 1 rfl) ?_
          obtain ⟨x7, hx7, hf⟩ := x_bd hf
          refine x_rdiV (As := [.int p1]) (rest := []) (wc := [(a_S, .inr (0, [.ref a_S_types, .ref a_S_ranks, .ref a_S_typeRanks, .int S_size, .int S_sorts])), (a_S_types, .inl (cI, 1000, .inl S_types))]) ⟨hx, hb, hml, hown, hts⟩ (c_Symbols_isVariable l dC dI cI cJ cB a_S a_S_types a_S_ranks a_S_typeRanks S_size S_sorts S_types p1 n x7 hx7) (cwV 1 hts (x_gV m_239 m_240 m_241 m_43 m_242) rfl rfl rfl hd_Symbols_isVariable ⟨Nat.le_of_ble_eq_true rfl, Nat.le_of_ble_eq_true rfl⟩) hK hP [0, 1] rfl (ci := 0) (q0 := 0) rfl rfl rfl rfl hl.1 rfl (Nat.le_of_ble_eq_true rfl) d_Rules_lengthen_45 ⟨Nat.le_of_ble_eq_true rfl, Nat.le_of_ble_eq_true rfl⟩ ?_
          refine lv_if_eq (tgt := 61) hx hb d_Rules_lengthen_48 (by decide +kernel) (fun c8 => ?_) (fun c8 => ?_)
          · have hf := x_pos c8 hf
            refine lv_aload_n hx hb d_Rules_lengthen_61 rfl (lv_at hl 0 rfl) ?_
            refine va_get (D := (dC, dI)) (ci := 1) (v := .ref a_R_all) (C := "SyntaxTrees$Rules") (T := F_Rules) (N := 9) hx hb hts (fun w h => List.mem_cons_of_mem _ (in_Rules w h)) hown hK.1 hP 2 rfl rfl 2 (by decide +kernel) (hts _ (List.mem_cons_of_mem _ m_82)) (fun _ h9 => h9) rfl d_Rules_lengthen_62 ?_
            refine lv_aload_n hx hb d_Rules_lengthen_65 rfl (lv_at hl 0 rfl) ?_
            refine va_get (D := (dC, dI)) (ci := 1) (v := .int R_used) (C := "SyntaxTrees$Rules") (T := F_Rules) (N := 9) hx hb hts (fun w h => List.mem_cons_of_mem _ (in_Rules w h)) hown hK.1 hP 2 rfl rfl 7 (by decide +kernel) (hts _ (List.mem_cons_of_mem _ m_87)) (fun _ h9 => h9) rfl d_Rules_lengthen_66 ?_
            refine lv_iload_n hx hb d_Rules_lengthen_69 rfl (lv_at hl 1 rfl) ?_
            obtain ⟨h9, hf⟩ := x_gd hf
            refine x_iast (w1 := [(a_S, .inr (0, [.ref a_S_types, .ref a_S_ranks, .ref a_S_typeRanks, .int S_size, .int S_sorts])), (a_S_types, .inl (cI, 1000, .inl S_types)), (a_R, .inr (1, [.ref a_S, .ref a_R_sorts, .ref a_R_all, .ref a_R_firsts, .ref a_R_newestWraps, .ref a_R_olderWraps, .int R_closed, .int R_used, .int R_isOpen])), (a_R_all, .inl (cI, 30000, .inl (upd R_all R_used.toNatClampNeg p1))), (a_R_firsts, .inl (cI, 1501, .inl R_firsts))]) hx hb hK.1 hP hD hS 3 0 rfl rfl h9 d_Rules_lengthen_70 rfl (fun H locs hP hD hS => ?_)
            refine lv_aload_n hx hb d_Rules_lengthen_71 rfl (lv_at hl 0 rfl) ?_
            refine lv_dup hx hb d_Rules_lengthen_72 rfl ?_
            refine va_get (D := (dC, dI)) (ci := 1) (v := .int R_used) (C := "SyntaxTrees$Rules") (T := F_Rules) (N := 9) hx hb hts (fun w h => List.mem_cons_of_mem _ (in_Rules w h)) hown hK.1 hP 2 rfl rfl 7 (by decide +kernel) (hts _ (List.mem_cons_of_mem _ m_87)) (fun _ h9 => h9) rfl d_Rules_lengthen_73 ?_
            refine lv_iconst (v := (1 : Int32)) hx hb d_Rules_lengthen_76 (by decide +kernel) ?_
            refine lv_iadd hx hb d_Rules_lengthen_77 ?_
            refine x_put (D := (dC, dI)) (ci := 1) (v := .int (R_used + (1 : Int32))) (ty := .int) (C := "SyntaxTrees$Rules") (T := F_Rules) (N := 9) (w1 := [(a_S, .inr (0, [.ref a_S_types, .ref a_S_ranks, .ref a_S_typeRanks, .int S_size, .int S_sorts])), (a_S_types, .inl (cI, 1000, .inl S_types)), (a_R, .inr (1, [.ref a_S, .ref a_R_sorts, .ref a_R_all, .ref a_R_firsts, .ref a_R_newestWraps, .ref a_R_olderWraps, .int R_closed, .int (R_used + (1 : Int32)), .int R_isOpen])), (a_R_all, .inl (cI, 30000, .inl (upd R_all R_used.toNatClampNeg p1))), (a_R_firsts, .inl (cI, 1501, .inl R_firsts))]) hx hb hts (fun w h => List.mem_cons_of_mem _ (in_Rules w h)) t_Rules t_Rules_ok n_Rules hown hK.1 hP hD hS 2 rfl rfl 7 (by decide +kernel) (hts _ (List.mem_cons_of_mem _ m_87)) (fun _ h9 => h9) rfl (by decide +kernel) rfl rfl (Nat.le_of_ble_eq_true rfl) d_Rules_lengthen_78 rfl (fun H locs hP hD hS => ?_)
            refine lv_aload_n hx hb d_Rules_lengthen_81 rfl (lv_at hl 0 rfl) ?_
            obtain ⟨x10, hx10, hf⟩ := x_bd hf
            refine x_rdiV (As := []) (rest := []) (wc := [(a_R, .inr (1, [.ref a_S, .ref a_R_sorts, .ref a_R_all, .ref a_R_firsts, .ref a_R_newestWraps, .ref a_R_olderWraps, .int R_closed, .int (R_used + (1 : Int32)), .int R_isOpen])), (a_R_firsts, .inl (cI, 1501, .inl R_firsts))]) ⟨hx, hb, hml, hown, hts⟩ (c_Rules_openLength l dC dI cI cJ cB a_R a_S a_R_sorts a_R_all a_R_firsts a_R_newestWraps a_R_olderWraps R_closed (R_used + (1 : Int32)) R_isOpen R_firsts n x10 hx10) (cwV 0 hts (x_gV m_235 m_236 m_1 m_44 m_237) rfl rfl rfl hd_Rules_openLength ⟨Nat.le_of_ble_eq_true rfl, Nat.le_of_ble_eq_true rfl⟩) hK hP [2, 4] rfl (ci := 1) (q0 := 0) rfl rfl rfl rfl hl.1 rfl (Nat.le_of_ble_eq_true rfl) d_Rules_lengthen_82 ⟨Nat.le_of_ble_eq_true rfl, Nat.le_of_ble_eq_true rfl⟩ ?_
            cases hf
            subst hQ
            exact W.iret hx hb hr (fun t ht _ => ⟨⟨_, (), rfl, rfl, by rw [ht]; exact hP, hD⟩, hS.F ht⟩) hS.2.2 d_Rules_lengthen_85
          · have hf := x_neg c8 hf
            refine lv_aload_n hx hb d_Rules_lengthen_51 rfl (lv_at hl 0 rfl) ?_
            refine lv_iload_n hx hb d_Rules_lengthen_52 rfl (lv_at hl 1 rfl) ?_
            obtain ⟨x11, hx11, hf⟩ := x_bd hf
            refine x_rdiV (As := [.int p1]) (rest := []) (wc := [(a_R, .inr (1, [.ref a_S, .ref a_R_sorts, .ref a_R_all, .ref a_R_firsts, .ref a_R_newestWraps, .ref a_R_olderWraps, .int R_closed, .int R_used, .int R_isOpen])), (a_R_all, .inl (cI, 30000, .inl R_all)), (a_R_firsts, .inl (cI, 1501, .inl R_firsts))]) ⟨hx, hb, hml, hown, hts⟩ (c_Rules_openHas l dC dI cI cJ cB a_R a_S a_R_sorts a_R_all a_R_firsts a_R_newestWraps a_R_olderWraps R_closed R_used R_isOpen R_all R_firsts p1 n x11 hx11) (cwV 1 hts (x_gV m_243 m_244 m_2 m_44 m_245) rfl rfl rfl hd_Rules_openHas ⟨Nat.le_of_ble_eq_true rfl, Nat.le_of_ble_eq_true rfl⟩) hK hP [2, 3, 4] rfl (ci := 1) (q0 := 0) rfl rfl rfl rfl hl.1 rfl (Nat.le_of_ble_eq_true rfl) d_Rules_lengthen_53 ⟨Nat.le_of_ble_eq_true rfl, Nat.le_of_ble_eq_true rfl⟩ ?_
            refine lv_if_eq (tgt := 61) hx hb d_Rules_lengthen_56 (by decide +kernel) (fun c12 => ?_) (fun c12 => ?_)
            · have hf := x_pos c12 hf
              refine lv_aload_n hx hb d_Rules_lengthen_61 rfl (lv_at hl 0 rfl) ?_
              refine va_get (D := (dC, dI)) (ci := 1) (v := .ref a_R_all) (C := "SyntaxTrees$Rules") (T := F_Rules) (N := 9) hx hb hts (fun w h => List.mem_cons_of_mem _ (in_Rules w h)) hown hK.1 hP 2 rfl rfl 2 (by decide +kernel) (hts _ (List.mem_cons_of_mem _ m_82)) (fun _ h9 => h9) rfl d_Rules_lengthen_62 ?_
              refine lv_aload_n hx hb d_Rules_lengthen_65 rfl (lv_at hl 0 rfl) ?_
              refine va_get (D := (dC, dI)) (ci := 1) (v := .int R_used) (C := "SyntaxTrees$Rules") (T := F_Rules) (N := 9) hx hb hts (fun w h => List.mem_cons_of_mem _ (in_Rules w h)) hown hK.1 hP 2 rfl rfl 7 (by decide +kernel) (hts _ (List.mem_cons_of_mem _ m_87)) (fun _ h9 => h9) rfl d_Rules_lengthen_66 ?_
              refine lv_iload_n hx hb d_Rules_lengthen_69 rfl (lv_at hl 1 rfl) ?_
              obtain ⟨h13, hf⟩ := x_gd hf
              refine x_iast (w1 := [(a_S, .inr (0, [.ref a_S_types, .ref a_S_ranks, .ref a_S_typeRanks, .int S_size, .int S_sorts])), (a_S_types, .inl (cI, 1000, .inl S_types)), (a_R, .inr (1, [.ref a_S, .ref a_R_sorts, .ref a_R_all, .ref a_R_firsts, .ref a_R_newestWraps, .ref a_R_olderWraps, .int R_closed, .int R_used, .int R_isOpen])), (a_R_all, .inl (cI, 30000, .inl (upd R_all R_used.toNatClampNeg p1))), (a_R_firsts, .inl (cI, 1501, .inl R_firsts))]) hx hb hK.1 hP hD hS 3 0 rfl rfl h13 d_Rules_lengthen_70 rfl (fun H locs hP hD hS => ?_)
              refine lv_aload_n hx hb d_Rules_lengthen_71 rfl (lv_at hl 0 rfl) ?_
              refine lv_dup hx hb d_Rules_lengthen_72 rfl ?_
              refine va_get (D := (dC, dI)) (ci := 1) (v := .int R_used) (C := "SyntaxTrees$Rules") (T := F_Rules) (N := 9) hx hb hts (fun w h => List.mem_cons_of_mem _ (in_Rules w h)) hown hK.1 hP 2 rfl rfl 7 (by decide +kernel) (hts _ (List.mem_cons_of_mem _ m_87)) (fun _ h9 => h9) rfl d_Rules_lengthen_73 ?_
              refine lv_iconst (v := (1 : Int32)) hx hb d_Rules_lengthen_76 (by decide +kernel) ?_
              refine lv_iadd hx hb d_Rules_lengthen_77 ?_
              refine x_put (D := (dC, dI)) (ci := 1) (v := .int (R_used + (1 : Int32))) (ty := .int) (C := "SyntaxTrees$Rules") (T := F_Rules) (N := 9) (w1 := [(a_S, .inr (0, [.ref a_S_types, .ref a_S_ranks, .ref a_S_typeRanks, .int S_size, .int S_sorts])), (a_S_types, .inl (cI, 1000, .inl S_types)), (a_R, .inr (1, [.ref a_S, .ref a_R_sorts, .ref a_R_all, .ref a_R_firsts, .ref a_R_newestWraps, .ref a_R_olderWraps, .int R_closed, .int (R_used + (1 : Int32)), .int R_isOpen])), (a_R_all, .inl (cI, 30000, .inl (upd R_all R_used.toNatClampNeg p1))), (a_R_firsts, .inl (cI, 1501, .inl R_firsts))]) hx hb hts (fun w h => List.mem_cons_of_mem _ (in_Rules w h)) t_Rules t_Rules_ok n_Rules hown hK.1 hP hD hS 2 rfl rfl 7 (by decide +kernel) (hts _ (List.mem_cons_of_mem _ m_87)) (fun _ h9 => h9) rfl (by decide +kernel) rfl rfl (Nat.le_of_ble_eq_true rfl) d_Rules_lengthen_78 rfl (fun H locs hP hD hS => ?_)
              refine lv_aload_n hx hb d_Rules_lengthen_81 rfl (lv_at hl 0 rfl) ?_
              obtain ⟨x14, hx14, hf⟩ := x_bd hf
              refine x_rdiV (As := []) (rest := []) (wc := [(a_R, .inr (1, [.ref a_S, .ref a_R_sorts, .ref a_R_all, .ref a_R_firsts, .ref a_R_newestWraps, .ref a_R_olderWraps, .int R_closed, .int (R_used + (1 : Int32)), .int R_isOpen])), (a_R_firsts, .inl (cI, 1501, .inl R_firsts))]) ⟨hx, hb, hml, hown, hts⟩ (c_Rules_openLength l dC dI cI cJ cB a_R a_S a_R_sorts a_R_all a_R_firsts a_R_newestWraps a_R_olderWraps R_closed (R_used + (1 : Int32)) R_isOpen R_firsts n x14 hx14) (cwV 0 hts (x_gV m_235 m_236 m_1 m_44 m_237) rfl rfl rfl hd_Rules_openLength ⟨Nat.le_of_ble_eq_true rfl, Nat.le_of_ble_eq_true rfl⟩) hK hP [2, 4] rfl (ci := 1) (q0 := 0) rfl rfl rfl rfl hl.1 rfl (Nat.le_of_ble_eq_true rfl) d_Rules_lengthen_82 ⟨Nat.le_of_ble_eq_true rfl, Nat.le_of_ble_eq_true rfl⟩ ?_
              cases hf
              subst hQ
              exact W.iret hx hb hr (fun t ht _ => ⟨⟨_, (), rfl, rfl, by rw [ht]; exact hP, hD⟩, hS.F ht⟩) hS.2.2 d_Rules_lengthen_85
            · have hf := x_neg c12 hf
              refine lv_iconst (v := (-1 : Int32)) hx hb d_Rules_lengthen_59 (by decide +kernel) ?_
              cases hf
              subst hQ
              exact W.iret hx hb hr (fun t ht _ => ⟨⟨_, (), rfl, rfl, by rw [ht]; exact hP, hD⟩, hS.F ht⟩) hS.2.2 d_Rules_lengthen_60
      · have hf := x_neg c4 hf
        refine lv_iconst (v := (-1 : Int32)) hx hb d_Rules_lengthen_27 (by decide +kernel) ?_
        cases hf
        subst hQ
        exact W.iret hx hb hr (fun t ht _ => ⟨⟨_, (), rfl, rfl, by rw [ht]; exact hP, hD⟩, hS.F ht⟩) hS.2.2 d_Rules_lengthen_28
set_option maxHeartbeats 4000000 in
set_option maxRecDepth 100000 in
theorem c_Rules_finish (l : Launch) (dC : Nat → ClassId) (dI : Nat → Nat → Nat) (cI cJ cB : ClassId) (a_S a_S_types a_S_ranks a_S_typeRanks a_R a_R_sorts a_R_all a_R_firsts a_R_newestWraps a_R_olderWraps : Nat)  (S_size : Int32) (S_sorts : Int32) (S_typeRanks : Nat → Int32) (R_closed : Int32) (R_used : Int32) (R_isOpen : Int32) (R_all : Nat → Int32) (R_firsts : Nat → Int32) (R_newestWraps : Nat → Int32) (R_olderWraps : Nat → Int32)  (sz : Nat) (n : Nat) (o : Int32 × Int32 × Int32 × (Nat → Int32) × (Nat → Int32) × (Nat → Int32)) (hf : f_Rules_finish n S_size S_typeRanks R_closed R_used R_isOpen R_all R_firsts R_newestWraps R_olderWraps = some o) : Met l y_Rules_finish w_Rules_finish ({ frames := 2, cells := 0, slots := 0, locals := 42 }) (va_Pc [.ref a_R] (fun U => U.heap.size = sz ∧ va_P (dC, dI) vwCl [(a_S, .inr (0, [.ref a_S_types, .ref a_S_ranks, .ref a_S_typeRanks, .int S_size, .int S_sorts])), (a_S_typeRanks, .inl (cI, 1000, .inl S_typeRanks)), (a_R, .inr (1, [.ref a_S, .ref a_R_sorts, .ref a_R_all, .ref a_R_firsts, .ref a_R_newestWraps, .ref a_R_olderWraps, .int R_closed, .int R_used, .int R_isOpen])), (a_R_all, .inl (cI, 30000, .inl R_all)), (a_R_firsts, .inl (cI, 1501, .inl R_firsts)), (a_R_newestWraps, .inl (cI, 100, .inl R_newestWraps)), (a_R_olderWraps, .inl (cI, 1500, .inl R_olderWraps))] U.heap ∧ x_K (dC, dI) [(cI, .int), (cJ, .long), (cB, .byte)] U ∧ va_D (fun _ => True) [(a_S, .inr (0, [.ref a_S_types, .ref a_S_ranks, .ref a_S_typeRanks, .int S_size, .int S_sorts])), (a_S_typeRanks, .inl (cI, 1000, .inl S_typeRanks)), (a_R, .inr (1, [.ref a_S, .ref a_R_sorts, .ref a_R_all, .ref a_R_firsts, .ref a_R_newestWraps, .ref a_R_olderWraps, .int R_closed, .int R_used, .int R_isOpen])), (a_R_all, .inl (cI, 30000, .inl R_all)), (a_R_firsts, .inl (cI, 1501, .inl R_firsts)), (a_R_newestWraps, .inl (cI, 100, .inl R_newestWraps)), (a_R_olderWraps, .inl (cI, 1500, .inl R_olderWraps))])) (va_Qi (fun r (_ : Unit) => r = o.1) (fun _ t => va_P (dC, dI) vwCl [(a_S, .inr (0, [.ref a_S_types, .ref a_S_ranks, .ref a_S_typeRanks, .int S_size, .int S_sorts])), (a_S_typeRanks, .inl (cI, 1000, .inl S_typeRanks)), (a_R, .inr (1, [.ref a_S, .ref a_R_sorts, .ref a_R_all, .ref a_R_firsts, .ref a_R_newestWraps, .ref a_R_olderWraps, .int o.2.1, .int R_used, .int o.2.2.1])), (a_R_all, .inl (cI, 30000, .inl R_all)), (a_R_firsts, .inl (cI, 1501, .inl o.2.2.2.1)), (a_R_newestWraps, .inl (cI, 100, .inl o.2.2.2.2.1)), (a_R_olderWraps, .inl (cI, 1500, .inl o.2.2.2.2.2))] t.heap ∧ va_D (va_A [(a_S, .inr (0, [.ref a_S_types, .ref a_S_ranks, .ref a_S_typeRanks, .int S_size, .int S_sorts])), (a_S_typeRanks, .inl (cI, 1000, .inl S_typeRanks)), (a_R, .inr (1, [.ref a_S, .ref a_R_sorts, .ref a_R_all, .ref a_R_firsts, .ref a_R_newestWraps, .ref a_R_olderWraps, .int R_closed, .int R_used, .int R_isOpen])), (a_R_all, .inl (cI, 30000, .inl R_all)), (a_R_firsts, .inl (cI, 1501, .inl R_firsts)), (a_R_newestWraps, .inl (cI, 100, .inl R_newestWraps)), (a_R_olderWraps, .inl (cI, 1500, .inl R_olderWraps))] sz) [(a_S, .inr (0, [.ref a_S_types, .ref a_S_ranks, .ref a_S_typeRanks, .int S_size, .int S_sorts])), (a_S_typeRanks, .inl (cI, 1000, .inl S_typeRanks)), (a_R, .inr (1, [.ref a_S, .ref a_R_sorts, .ref a_R_all, .ref a_R_firsts, .ref a_R_newestWraps, .ref a_R_olderWraps, .int o.2.1, .int R_used, .int o.2.2.1])), (a_R_all, .inl (cI, 30000, .inl R_all)), (a_R_firsts, .inl (cI, 1501, .inl o.2.2.2.1)), (a_R_newestWraps, .inl (cI, 100, .inl o.2.2.2.2.1)), (a_R_olderWraps, .inl (cI, 1500, .inl o.2.2.2.2.2))]) (va_A [(a_S, .inr (0, [.ref a_S_types, .ref a_S_ranks, .ref a_S_typeRanks, .int S_size, .int S_sorts])), (a_S_typeRanks, .inl (cI, 1000, .inl S_typeRanks)), (a_R, .inr (1, [.ref a_S, .ref a_R_sorts, .ref a_R_all, .ref a_R_firsts, .ref a_R_newestWraps, .ref a_R_olderWraps, .int R_closed, .int R_used, .int R_isOpen])), (a_R_all, .inl (cI, 30000, .inl R_all)), (a_R_firsts, .inl (cI, 1501, .inl R_firsts)), (a_R_newestWraps, .inl (cI, 100, .inl R_newestWraps)), (a_R_olderWraps, .inl (cI, 1500, .inl R_olderWraps))] sz)) 0 0 (va_A [(a_S, .inr (0, [.ref a_S_types, .ref a_S_ranks, .ref a_S_typeRanks, .int S_size, .int S_sorts])), (a_S_typeRanks, .inl (cI, 1000, .inl S_typeRanks)), (a_R, .inr (1, [.ref a_S, .ref a_R_sorts, .ref a_R_all, .ref a_R_firsts, .ref a_R_newestWraps, .ref a_R_olderWraps, .int R_closed, .int R_used, .int R_isOpen])), (a_R_all, .inl (cI, 30000, .inl R_all)), (a_R_firsts, .inl (cI, 1501, .inl R_firsts)), (a_R_newestWraps, .inl (cI, 100, .inl R_newestWraps)), (a_R_olderWraps, .inl (cI, 1500, .inl R_olderWraps))] sz) := by
  refine Met.ofW (cc := b_Rules_finish) (maxL := 1) (ret := (some .boolean)) (by decide +kernel) rfl ?_
  intro p e s m args below meth c s₁ B hml hv
  obtain ⟨rfl, hsz, hP, hK, hD0⟩ := hv
  have hx := B.exec
  have hb := B.bytes
  have hr := B.returns
  have hts := atoms_spec (ws := w_Rules_finish) B.pre
  have hown : s.vm.findClass "SyntaxTrees$Rules" = some m.cls := findClass_of_methodNamed B.named
  have hlocks := B.notSynchronized
  subst hsz
  have hD := hD0.self (sz := s.heap.size)
  generalize hAe : va_A [(a_S, .inr (0, [.ref a_S_types, .ref a_S_ranks, .ref a_S_typeRanks, .int S_size, .int S_sorts])), (a_S_typeRanks, .inl (cI, 1000, .inl S_typeRanks)), (a_R, .inr (1, [.ref a_S, .ref a_R_sorts, .ref a_R_all, .ref a_R_firsts, .ref a_R_newestWraps, .ref a_R_olderWraps, .int R_closed, .int R_used, .int R_isOpen])), (a_R_all, .inl (cI, 30000, .inl R_all)), (a_R_firsts, .inl (cI, 1501, .inl R_firsts)), (a_R_newestWraps, .inl (cI, 100, .inl R_newestWraps)), (a_R_olderWraps, .inl (cI, 1500, .inl R_olderWraps))] s.heap.size = A at hD ⊢
  have hA : ∀ q : Nat, s.heap.size ≤ q → A q := fun q h => by rw [← hAe]; exact Or.inr h
  have hS : va_S A s.heap s.heap [] := va_S.rf
  have hP : va_P (dC, dI) vwCl [(a_S, .inr (0, [.ref a_S_types, .ref a_S_ranks, .ref a_S_typeRanks, .int S_size, .int S_sorts])), (a_S_typeRanks, .inl (cI, 1000, .inl S_typeRanks)), (a_R, .inr (1, [.ref a_S, .ref a_R_sorts, .ref a_R_all, .ref a_R_firsts, .ref a_R_newestWraps, .ref a_R_olderWraps, .int R_closed, .int R_used, .int R_isOpen])), (a_R_all, .inl (cI, 30000, .inl R_all)), (a_R_firsts, .inl (cI, 1501, .inl R_firsts)), (a_R_newestWraps, .inl (cI, 100, .inl R_newestWraps)), (a_R_olderWraps, .inl (cI, 1500, .inl R_olderWraps))] s.heap := hP
  have hl := lv_entry ([.ref a_R]) (n := 1) (Nat.le_of_ble_eq_true rfl)
  rw [lg_entry_eq]
  generalize (lg_sl ([.ref a_R]) ++ List.replicate (1 - (lg_sl ([.ref a_R])).length) Slot.unset).toArray = ls at hl ⊢
  have hl : lv_has ls 1 [(0, .ref a_R)] := hl
  refine x_Q (fun Q hQ => ?_)
  unfold f_Rules_finish at hf
  refine lv_aload_n hx hb d_Rules_finish_0 rfl (lv_at hl 0 rfl) ?_
  refine va_get (D := (dC, dI)) (ci := 1) (v := .int R_isOpen) (C := "SyntaxTrees$Rules") (T := F_Rules) (N := 9) hx hb hts (fun w h => List.mem_cons_of_mem _ (in_Rules w h)) hown hK.1 hP 2 rfl rfl 8 (by decide +kernel) (hts _ (List.mem_cons_of_mem _ m_88)) (fun _ h9 => h9) rfl d_Rules_finish_1 ?_
  refine lv_if_eq (tgt := 14) hx hb d_Rules_finish_4 (by decide +kernel) (fun c1 => ?_) (fun c1 => ?_)
  · have hf := x_pos c1 hf
    refine lv_iconst (v := (0 : Int32)) hx hb d_Rules_finish_14 (by decide +kernel) ?_
    cases hf
    subst hQ
    exact W.zret hx hb hr rfl (fun t ht _ => ⟨⟨_, (), rfl, rfl, by rw [ht]; exact hP, hD⟩, hS.F ht⟩) hS.2.2 d_Rules_finish_15
  · have hf := x_neg c1 hf
    refine lv_aload_n hx hb d_Rules_finish_7 rfl (lv_at hl 0 rfl) ?_
    obtain ⟨x2, hx2, hf⟩ := x_bd hf
    refine x_rdiV (As := []) (rest := []) (wc := [(a_R, .inr (1, [.ref a_S, .ref a_R_sorts, .ref a_R_all, .ref a_R_firsts, .ref a_R_newestWraps, .ref a_R_olderWraps, .int R_closed, .int R_used, .int R_isOpen])), (a_R_firsts, .inl (cI, 1501, .inl R_firsts))]) ⟨hx, hb, hml, hown, hts⟩ (c_Rules_openLength l dC dI cI cJ cB a_R a_S a_R_sorts a_R_all a_R_firsts a_R_newestWraps a_R_olderWraps R_closed R_used R_isOpen R_firsts n x2 hx2) (cwV 0 hts (x_gV m_235 m_236 m_1 m_44 m_237) rfl rfl rfl hd_Rules_openLength ⟨Nat.le_of_ble_eq_true rfl, Nat.le_of_ble_eq_true rfl⟩) hK hP [2, 4] rfl (ci := 1) (q0 := 0) rfl rfl rfl rfl hl.1 rfl (Nat.le_of_ble_eq_true rfl) d_Rules_finish_8 ⟨Nat.le_of_ble_eq_true rfl, Nat.le_of_ble_eq_true rfl⟩ ?_
    refine lv_if_ne (tgt := 16) hx hb d_Rules_finish_11 (by decide +kernel) (fun c3 => ?_) (fun c3 => ?_)
    · have hf := x_neg c3 hf
      refine lv_aload_n hx hb d_Rules_finish_16 rfl (lv_at hl 0 rfl) ?_
      obtain ⟨x4, hx4, hf⟩ := x_bd hf
      refine x_rdiV (As := []) (rest := []) (wc := [(a_R, .inr (1, [.ref a_S, .ref a_R_sorts, .ref a_R_all, .ref a_R_firsts, .ref a_R_newestWraps, .ref a_R_olderWraps, .int R_closed, .int R_used, .int R_isOpen])), (a_R_firsts, .inl (cI, 1501, .inl R_firsts))]) ⟨hx, hb, hml, hown, hts⟩ (c_Rules_openLength l dC dI cI cJ cB a_R a_S a_R_sorts a_R_all a_R_firsts a_R_newestWraps a_R_olderWraps R_closed R_used R_isOpen R_firsts n x4 hx4) (cwV 0 hts (x_gV m_235 m_236 m_1 m_44 m_237) rfl rfl rfl hd_Rules_openLength ⟨Nat.le_of_ble_eq_true rfl, Nat.le_of_ble_eq_true rfl⟩) hK hP [2, 4] rfl (ci := 1) (q0 := 0) rfl rfl rfl rfl hl.1 rfl (Nat.le_of_ble_eq_true rfl) d_Rules_finish_17 ⟨Nat.le_of_ble_eq_true rfl, Nat.le_of_ble_eq_true rfl⟩ ?_
      refine lv_iconst (v := (1 : Int32)) hx hb d_Rules_finish_20 (by decide +kernel) ?_
      refine lv_icmp_ne (tgt := 46) hx hb d_Rules_finish_21 (by decide +kernel) (fun c5 => ?_) (fun c5 => ?_)
      · have hf := x_neg c5 hf
        refine lv_aload_n hx hb d_Rules_finish_46 rfl (lv_at hl 0 rfl) ?_
        refine lv_dup hx hb d_Rules_finish_47 rfl ?_
        refine va_get (D := (dC, dI)) (ci := 1) (v := .int R_closed) (C := "SyntaxTrees$Rules") (T := F_Rules) (N := 9) hx hb hts (fun w h => List.mem_cons_of_mem _ (in_Rules w h)) hown hK.1 hP 2 rfl rfl 6 (by decide +kernel) (hts _ (List.mem_cons_of_mem _ m_86)) (fun _ h9 => h9) rfl d_Rules_finish_48 ?_
        refine lv_iconst (v := (1 : Int32)) hx hb d_Rules_finish_51 (by decide +kernel) ?_
        refine lv_iadd hx hb d_Rules_finish_52 ?_
        refine x_put (D := (dC, dI)) (ci := 1) (v := .int (R_closed + (1 : Int32))) (ty := .int) (C := "SyntaxTrees$Rules") (T := F_Rules) (N := 9) (w1 := [(a_S, .inr (0, [.ref a_S_types, .ref a_S_ranks, .ref a_S_typeRanks, .int S_size, .int S_sorts])), (a_S_typeRanks, .inl (cI, 1000, .inl S_typeRanks)), (a_R, .inr (1, [.ref a_S, .ref a_R_sorts, .ref a_R_all, .ref a_R_firsts, .ref a_R_newestWraps, .ref a_R_olderWraps, .int (R_closed + (1 : Int32)), .int R_used, .int R_isOpen])), (a_R_all, .inl (cI, 30000, .inl R_all)), (a_R_firsts, .inl (cI, 1501, .inl R_firsts)), (a_R_newestWraps, .inl (cI, 100, .inl R_newestWraps)), (a_R_olderWraps, .inl (cI, 1500, .inl R_olderWraps))]) hx hb hts (fun w h => List.mem_cons_of_mem _ (in_Rules w h)) t_Rules t_Rules_ok n_Rules hown hK.1 hP hD hS 2 rfl rfl 6 (by decide +kernel) (hts _ (List.mem_cons_of_mem _ m_86)) (fun _ h9 => h9) rfl (by decide +kernel) rfl rfl (Nat.le_of_ble_eq_true rfl) d_Rules_finish_53 rfl (fun H locs hP hD hS => ?_)
        refine lv_aload_n hx hb d_Rules_finish_56 rfl (lv_at hl 0 rfl) ?_
        refine va_get (D := (dC, dI)) (ci := 1) (v := .ref a_R_firsts) (C := "SyntaxTrees$Rules") (T := F_Rules) (N := 9) hx hb hts (fun w h => List.mem_cons_of_mem _ (in_Rules w h)) hown hK.1 hP 2 rfl rfl 3 (by decide +kernel) (hts _ (List.mem_cons_of_mem _ m_83)) (fun _ h9 => h9) rfl d_Rules_finish_57 ?_
        refine lv_aload_n hx hb d_Rules_finish_60 rfl (lv_at hl 0 rfl) ?_
        refine va_get (D := (dC, dI)) (ci := 1) (v := .int (R_closed + (1 : Int32))) (C := "SyntaxTrees$Rules") (T := F_Rules) (N := 9) hx hb hts (fun w h => List.mem_cons_of_mem _ (in_Rules w h)) hown hK.1 hP 2 rfl rfl 6 (by decide +kernel) (hts _ (List.mem_cons_of_mem _ m_86)) (fun _ h9 => h9) rfl d_Rules_finish_61 ?_
        refine lv_aload_n hx hb d_Rules_finish_64 rfl (lv_at hl 0 rfl) ?_
        refine va_get (D := (dC, dI)) (ci := 1) (v := .int R_used) (C := "SyntaxTrees$Rules") (T := F_Rules) (N := 9) hx hb hts (fun w h => List.mem_cons_of_mem _ (in_Rules w h)) hown hK.1 hP 2 rfl rfl 7 (by decide +kernel) (hts _ (List.mem_cons_of_mem _ m_87)) (fun _ h9 => h9) rfl d_Rules_finish_65 ?_
        obtain ⟨h6, hf⟩ := x_gd hf
        refine x_iast (w1 := [(a_S, .inr (0, [.ref a_S_types, .ref a_S_ranks, .ref a_S_typeRanks, .int S_size, .int S_sorts])), (a_S_typeRanks, .inl (cI, 1000, .inl S_typeRanks)), (a_R, .inr (1, [.ref a_S, .ref a_R_sorts, .ref a_R_all, .ref a_R_firsts, .ref a_R_newestWraps, .ref a_R_olderWraps, .int (R_closed + (1 : Int32)), .int R_used, .int R_isOpen])), (a_R_all, .inl (cI, 30000, .inl R_all)), (a_R_firsts, .inl (cI, 1501, .inl (upd R_firsts (R_closed + (1 : Int32)).toNatClampNeg R_used))), (a_R_newestWraps, .inl (cI, 100, .inl R_newestWraps)), (a_R_olderWraps, .inl (cI, 1500, .inl R_olderWraps))]) hx hb hK.1 hP hD hS 4 0 rfl rfl h6 d_Rules_finish_68 rfl (fun H locs hP hD hS => ?_)
        refine lv_aload_n hx hb d_Rules_finish_69 rfl (lv_at hl 0 rfl) ?_
        refine lv_iconst (v := (0 : Int32)) hx hb d_Rules_finish_70 (by decide +kernel) ?_
        refine x_put (D := (dC, dI)) (ci := 1) (v := .int (0 : Int32)) (ty := .boolean) (C := "SyntaxTrees$Rules") (T := F_Rules) (N := 9) (w1 := [(a_S, .inr (0, [.ref a_S_types, .ref a_S_ranks, .ref a_S_typeRanks, .int S_size, .int S_sorts])), (a_S_typeRanks, .inl (cI, 1000, .inl S_typeRanks)), (a_R, .inr (1, [.ref a_S, .ref a_R_sorts, .ref a_R_all, .ref a_R_firsts, .ref a_R_newestWraps, .ref a_R_olderWraps, .int (R_closed + (1 : Int32)), .int R_used, .int (0 : Int32)])), (a_R_all, .inl (cI, 30000, .inl R_all)), (a_R_firsts, .inl (cI, 1501, .inl (upd R_firsts (R_closed + (1 : Int32)).toNatClampNeg R_used))), (a_R_newestWraps, .inl (cI, 100, .inl R_newestWraps)), (a_R_olderWraps, .inl (cI, 1500, .inl R_olderWraps))]) hx hb hts (fun w h => List.mem_cons_of_mem _ (in_Rules w h)) t_Rules t_Rules_ok n_Rules hown hK.1 hP hD hS 2 rfl rfl 8 (by decide +kernel) (hts _ (List.mem_cons_of_mem _ m_88)) (fun _ h9 => h9) rfl (by decide +kernel) rfl rfl (Nat.le_of_ble_eq_true rfl) d_Rules_finish_71 rfl (fun H locs hP hD hS => ?_)
        refine lv_iconst (v := (1 : Int32)) hx hb d_Rules_finish_74 (by decide +kernel) ?_
        cases hf
        subst hQ
        exact W.zret hx hb hr rfl (fun t ht _ => ⟨⟨_, (), rfl, rfl, by rw [ht]; exact hP, hD⟩, hS.F ht⟩) hS.2.2 d_Rules_finish_75
      · have hf := x_pos c5 hf
        refine lv_aload_n hx hb d_Rules_finish_24 rfl (lv_at hl 0 rfl) ?_
        refine lv_aload_n hx hb d_Rules_finish_25 rfl (lv_at hl 0 rfl) ?_
        refine va_get (D := (dC, dI)) (ci := 1) (v := .ref a_S) (C := "SyntaxTrees$Rules") (T := F_Rules) (N := 9) hx hb hts (fun w h => List.mem_cons_of_mem _ (in_Rules w h)) hown hK.1 hP 2 rfl rfl 0 (by decide +kernel) (hts _ (List.mem_cons_of_mem _ m_80)) (fun _ h9 => h9) rfl d_Rules_finish_26 ?_
        refine lv_aload_n hx hb d_Rules_finish_29 rfl (lv_at hl 0 rfl) ?_
        refine va_get (D := (dC, dI)) (ci := 1) (v := .ref a_R_all) (C := "SyntaxTrees$Rules") (T := F_Rules) (N := 9) hx hb hts (fun w h => List.mem_cons_of_mem _ (in_Rules w h)) hown hK.1 hP 2 rfl rfl 2 (by decide +kernel) (hts _ (List.mem_cons_of_mem _ m_82)) (fun _ h9 => h9) rfl d_Rules_finish_30 ?_
        refine lv_aload_n hx hb d_Rules_finish_33 rfl (lv_at hl 0 rfl) ?_
        refine va_get (D := (dC, dI)) (ci := 1) (v := .int R_used) (C := "SyntaxTrees$Rules") (T := F_Rules) (N := 9) hx hb hts (fun w h => List.mem_cons_of_mem _ (in_Rules w h)) hown hK.1 hP 2 rfl rfl 7 (by decide +kernel) (hts _ (List.mem_cons_of_mem _ m_87)) (fun _ h9 => h9) rfl d_Rules_finish_34 ?_
        refine lv_iconst (v := (1 : Int32)) hx hb d_Rules_finish_37 (by decide +kernel) ?_
        refine lv_isub hx hb d_Rules_finish_38 ?_
        obtain ⟨h7, hf⟩ := x_gd hf
        refine va_iald hx hb hK.1 hP 3 0 rfl rfl h7 d_Rules_finish_39 ?_
        obtain ⟨x8, hx8, hf⟩ := x_bd hf
        refine x_rdiV (As := [.int (R_all (R_used - (1 : Int32)).toNatClampNeg)]) (rest := [.ref a_R]) (wc := [(a_S, .inr (0, [.ref a_S_types, .ref a_S_ranks, .ref a_S_typeRanks, .int S_size, .int S_sorts])), (a_S_typeRanks, .inl (cI, 1000, .inl S_typeRanks))]) ⟨hx, hb, hml, hown, hts⟩ (c_Symbols_typeRankOf l dC dI cI cJ cB a_S a_S_types a_S_ranks a_S_typeRanks S_size S_sorts S_typeRanks (R_all (R_used - (1 : Int32)).toNatClampNeg) n x8 hx8) (cwV 1 hts (x_gV m_254 m_255 m_256 m_43 m_257) rfl rfl rfl hd_Symbols_typeRankOf ⟨Nat.le_of_ble_eq_true rfl, Nat.le_of_ble_eq_true rfl⟩) hK hP [0, 1] rfl (ci := 0) (q0 := 0) rfl rfl rfl rfl hl.1 rfl (Nat.le_of_ble_eq_true rfl) d_Rules_finish_40 ⟨Nat.le_of_ble_eq_true rfl, Nat.le_of_ble_eq_true rfl⟩ ?_
        obtain ⟨x9, hx9, hf⟩ := x_bd hf
        refine x_wrvV (As := [.int x8]) (rest := []) (wc := [(a_R, .inr (1, [.ref a_S, .ref a_R_sorts, .ref a_R_all, .ref a_R_firsts, .ref a_R_newestWraps, .ref a_R_olderWraps, .int R_closed, .int R_used, .int R_isOpen])), (a_R_newestWraps, .inl (cI, 100, .inl R_newestWraps)), (a_R_olderWraps, .inl (cI, 1500, .inl R_olderWraps))]) (wr := [(a_S, .inr (0, [.ref a_S_types, .ref a_S_ranks, .ref a_S_typeRanks, .int S_size, .int S_sorts])), (a_S_typeRanks, .inl (cI, 1000, .inl S_typeRanks)), (a_R_all, .inl (cI, 30000, .inl R_all)), (a_R_firsts, .inl (cI, 1501, .inl R_firsts))]) (w1 := [(a_R, .inr (1, [.ref a_S, .ref a_R_sorts, .ref a_R_all, .ref a_R_firsts, .ref a_R_newestWraps, .ref a_R_olderWraps, .int R_closed, .int R_used, .int R_isOpen])), (a_R_newestWraps, .inl (cI, 100, .inl x9.1)), (a_R_olderWraps, .inl (cI, 1500, .inl x9.2))]) (wf := [(a_S, .inr (0, [.ref a_S_types, .ref a_S_ranks, .ref a_S_typeRanks, .int S_size, .int S_sorts])), (a_S_typeRanks, .inl (cI, 1000, .inl S_typeRanks)), (a_R, .inr (1, [.ref a_S, .ref a_R_sorts, .ref a_R_all, .ref a_R_firsts, .ref a_R_newestWraps, .ref a_R_olderWraps, .int R_closed, .int R_used, .int R_isOpen])), (a_R_all, .inl (cI, 30000, .inl R_all)), (a_R_firsts, .inl (cI, 1501, .inl R_firsts)), (a_R_newestWraps, .inl (cI, 100, .inl x9.1)), (a_R_olderWraps, .inl (cI, 1500, .inl x9.2))]) ⟨hx, hb, hml, hown, hts⟩ (c_Rules_linkWrap l dC dI cI cJ cB a_R a_S a_R_sorts a_R_all a_R_firsts a_R_newestWraps a_R_olderWraps R_closed R_used R_isOpen R_newestWraps R_olderWraps x8 s.heap.size n x9 hx9) (cwV 1 hts (x_gV m_258 m_259 m_3 m_44 m_260) rfl rfl rfl hd_Rules_linkWrap ⟨Nat.le_of_ble_eq_true rfl, Nat.le_of_ble_eq_true rfl⟩) hK hP hD hS hA [2, 5, 6] [0, 1, 3, 4] [0, 1, 4, 2, 3, 5, 6] rfl rfl rfl (by decide +kernel) (by decide +kernel) (by decide +kernel) (by decide +kernel) (ci := 1) (q0 := 0) rfl rfl rfl rfl hl.1 rfl (Nat.le_of_ble_eq_true rfl) d_Rules_finish_43 ⟨Nat.le_of_ble_eq_true rfl, Nat.le_of_ble_eq_true rfl⟩ (fun H locs hP hD hS => ?_)
        refine lv_aload_n hx hb d_Rules_finish_46 rfl (lv_at hl 0 rfl) ?_
        refine lv_dup hx hb d_Rules_finish_47 rfl ?_
        refine va_get (D := (dC, dI)) (ci := 1) (v := .int R_closed) (C := "SyntaxTrees$Rules") (T := F_Rules) (N := 9) hx hb hts (fun w h => List.mem_cons_of_mem _ (in_Rules w h)) hown hK.1 hP 2 rfl rfl 6 (by decide +kernel) (hts _ (List.mem_cons_of_mem _ m_86)) (fun _ h9 => h9) rfl d_Rules_finish_48 ?_
        refine lv_iconst (v := (1 : Int32)) hx hb d_Rules_finish_51 (by decide +kernel) ?_
        refine lv_iadd hx hb d_Rules_finish_52 ?_
        refine x_put (D := (dC, dI)) (ci := 1) (v := .int (R_closed + (1 : Int32))) (ty := .int) (C := "SyntaxTrees$Rules") (T := F_Rules) (N := 9) (w1 := [(a_S, .inr (0, [.ref a_S_types, .ref a_S_ranks, .ref a_S_typeRanks, .int S_size, .int S_sorts])), (a_S_typeRanks, .inl (cI, 1000, .inl S_typeRanks)), (a_R, .inr (1, [.ref a_S, .ref a_R_sorts, .ref a_R_all, .ref a_R_firsts, .ref a_R_newestWraps, .ref a_R_olderWraps, .int (R_closed + (1 : Int32)), .int R_used, .int R_isOpen])), (a_R_all, .inl (cI, 30000, .inl R_all)), (a_R_firsts, .inl (cI, 1501, .inl R_firsts)), (a_R_newestWraps, .inl (cI, 100, .inl x9.1)), (a_R_olderWraps, .inl (cI, 1500, .inl x9.2))]) hx hb hts (fun w h => List.mem_cons_of_mem _ (in_Rules w h)) t_Rules t_Rules_ok n_Rules hown hK.1 hP hD hS 2 rfl rfl 6 (by decide +kernel) (hts _ (List.mem_cons_of_mem _ m_86)) (fun _ h9 => h9) rfl (by decide +kernel) rfl rfl (Nat.le_of_ble_eq_true rfl) d_Rules_finish_53 rfl (fun H locs hP hD hS => ?_)
        refine lv_aload_n hx hb d_Rules_finish_56 rfl (lv_at hl 0 rfl) ?_
        refine va_get (D := (dC, dI)) (ci := 1) (v := .ref a_R_firsts) (C := "SyntaxTrees$Rules") (T := F_Rules) (N := 9) hx hb hts (fun w h => List.mem_cons_of_mem _ (in_Rules w h)) hown hK.1 hP 2 rfl rfl 3 (by decide +kernel) (hts _ (List.mem_cons_of_mem _ m_83)) (fun _ h9 => h9) rfl d_Rules_finish_57 ?_
        refine lv_aload_n hx hb d_Rules_finish_60 rfl (lv_at hl 0 rfl) ?_
        refine va_get (D := (dC, dI)) (ci := 1) (v := .int (R_closed + (1 : Int32))) (C := "SyntaxTrees$Rules") (T := F_Rules) (N := 9) hx hb hts (fun w h => List.mem_cons_of_mem _ (in_Rules w h)) hown hK.1 hP 2 rfl rfl 6 (by decide +kernel) (hts _ (List.mem_cons_of_mem _ m_86)) (fun _ h9 => h9) rfl d_Rules_finish_61 ?_
        refine lv_aload_n hx hb d_Rules_finish_64 rfl (lv_at hl 0 rfl) ?_
        refine va_get (D := (dC, dI)) (ci := 1) (v := .int R_used) (C := "SyntaxTrees$Rules") (T := F_Rules) (N := 9) hx hb hts (fun w h => List.mem_cons_of_mem _ (in_Rules w h)) hown hK.1 hP 2 rfl rfl 7 (by decide +kernel) (hts _ (List.mem_cons_of_mem _ m_87)) (fun _ h9 => h9) rfl d_Rules_finish_65 ?_
        obtain ⟨h10, hf⟩ := x_gd hf
        refine x_iast (w1 := [(a_S, .inr (0, [.ref a_S_types, .ref a_S_ranks, .ref a_S_typeRanks, .int S_size, .int S_sorts])), (a_S_typeRanks, .inl (cI, 1000, .inl S_typeRanks)), (a_R, .inr (1, [.ref a_S, .ref a_R_sorts, .ref a_R_all, .ref a_R_firsts, .ref a_R_newestWraps, .ref a_R_olderWraps, .int (R_closed + (1 : Int32)), .int R_used, .int R_isOpen])), (a_R_all, .inl (cI, 30000, .inl R_all)), (a_R_firsts, .inl (cI, 1501, .inl (upd R_firsts (R_closed + (1 : Int32)).toNatClampNeg R_used))), (a_R_newestWraps, .inl (cI, 100, .inl x9.1)), (a_R_olderWraps, .inl (cI, 1500, .inl x9.2))]) hx hb hK.1 hP hD hS 4 0 rfl rfl h10 d_Rules_finish_68 rfl (fun H locs hP hD hS => ?_)
        refine lv_aload_n hx hb d_Rules_finish_69 rfl (lv_at hl 0 rfl) ?_
        refine lv_iconst (v := (0 : Int32)) hx hb d_Rules_finish_70 (by decide +kernel) ?_
        refine x_put (D := (dC, dI)) (ci := 1) (v := .int (0 : Int32)) (ty := .boolean) (C := "SyntaxTrees$Rules") (T := F_Rules) (N := 9) (w1 := [(a_S, .inr (0, [.ref a_S_types, .ref a_S_ranks, .ref a_S_typeRanks, .int S_size, .int S_sorts])), (a_S_typeRanks, .inl (cI, 1000, .inl S_typeRanks)), (a_R, .inr (1, [.ref a_S, .ref a_R_sorts, .ref a_R_all, .ref a_R_firsts, .ref a_R_newestWraps, .ref a_R_olderWraps, .int (R_closed + (1 : Int32)), .int R_used, .int (0 : Int32)])), (a_R_all, .inl (cI, 30000, .inl R_all)), (a_R_firsts, .inl (cI, 1501, .inl (upd R_firsts (R_closed + (1 : Int32)).toNatClampNeg R_used))), (a_R_newestWraps, .inl (cI, 100, .inl x9.1)), (a_R_olderWraps, .inl (cI, 1500, .inl x9.2))]) hx hb hts (fun w h => List.mem_cons_of_mem _ (in_Rules w h)) t_Rules t_Rules_ok n_Rules hown hK.1 hP hD hS 2 rfl rfl 8 (by decide +kernel) (hts _ (List.mem_cons_of_mem _ m_88)) (fun _ h9 => h9) rfl (by decide +kernel) rfl rfl (Nat.le_of_ble_eq_true rfl) d_Rules_finish_71 rfl (fun H locs hP hD hS => ?_)
        refine lv_iconst (v := (1 : Int32)) hx hb d_Rules_finish_74 (by decide +kernel) ?_
        cases hf
        subst hQ
        exact W.zret hx hb hr rfl (fun t ht _ => ⟨⟨_, (), rfl, rfl, by rw [ht]; exact hP, hD⟩, hS.F ht⟩) hS.2.2 d_Rules_finish_75
    · have hf := x_pos c3 hf
      refine lv_iconst (v := (0 : Int32)) hx hb d_Rules_finish_14 (by decide +kernel) ?_
      cases hf
      subst hQ
      exact W.zret hx hb hr rfl (fun t ht _ => ⟨⟨_, (), rfl, rfl, by rw [ht]; exact hP, hD⟩, hS.F ht⟩) hS.2.2 d_Rules_finish_15
