abbrev b_Top_bit : ByteArray := prog_1_method_15_code
def y_Top_bit : MethodName := ⟨"SyntaxTrees", "bit", "(I)J"⟩
def w_Top_bit : List Cond := .code y_Top_bit b_Top_bit 1 (some .long) :: TBL
theorem hd_Top_bit : y_Top_bit.cls = "SyntaxTrees" ∧ y_Top_bit.cls ≠ "java/lang/invoke/MethodHandle" ∧ y_Top_bit.cls ≠ "java/lang/invoke/VarHandle" ∧ (parseMethodDescriptor y_Top_bit.desc).map (fun d => d.parameters.length) = some 1 := by decide +kernel
theorem d_Top_bit_0 : decode b_Top_bit 0 = .ok (.lconst 1, 1) := by decide +kernel
theorem d_Top_bit_1 : decode b_Top_bit 1 = .ok (.iload_n 0, 1) := by decide +kernel
theorem d_Top_bit_2 : decode b_Top_bit 2 = .ok (.lshl, 1) := by decide +kernel
theorem d_Top_bit_3 : decode b_Top_bit 3 = .ok (.lreturn, 1) := by decide +kernel
abbrev b_Top_hasBit : ByteArray := prog_1_method_16_code
def y_Top_hasBit : MethodName := ⟨"SyntaxTrees", "hasBit", "(JI)Z"⟩
def w_Top_hasBit : List Cond := .code y_Top_hasBit b_Top_hasBit 3 (some .boolean) :: TBL
theorem hd_Top_hasBit : y_Top_hasBit.cls = "SyntaxTrees" ∧ y_Top_hasBit.cls ≠ "java/lang/invoke/MethodHandle" ∧ y_Top_hasBit.cls ≠ "java/lang/invoke/VarHandle" ∧ (parseMethodDescriptor y_Top_hasBit.desc).map (fun d => d.parameters.length) = some 2 := by decide +kernel
theorem d_Top_hasBit_0 : decode b_Top_hasBit 0 = .ok (.lload_n 0, 1) := by decide +kernel
theorem d_Top_hasBit_1 : decode b_Top_hasBit 1 = .ok (.iload_n 2, 1) := by decide +kernel
theorem d_Top_hasBit_2 : decode b_Top_hasBit 2 = .ok (.invokestatic 116, 3) := by decide +kernel
theorem d_Top_hasBit_5 : decode b_Top_hasBit 5 = .ok (.land, 1) := by decide +kernel
theorem d_Top_hasBit_6 : decode b_Top_hasBit 6 = .ok (.lconst 0, 1) := by decide +kernel
theorem d_Top_hasBit_7 : decode b_Top_hasBit 7 = .ok (.lcmp, 1) := by decide +kernel
theorem d_Top_hasBit_8 : decode b_Top_hasBit 8 = .ok (.ifCond .eq 7, 3) := by decide +kernel
theorem d_Top_hasBit_11 : decode b_Top_hasBit 11 = .ok (.iconst 1, 1) := by decide +kernel
theorem d_Top_hasBit_12 : decode b_Top_hasBit 12 = .ok (.goto 4, 3) := by decide +kernel
theorem d_Top_hasBit_15 : decode b_Top_hasBit 15 = .ok (.iconst 0, 1) := by decide +kernel
theorem d_Top_hasBit_16 : decode b_Top_hasBit 16 = .ok (.ireturn, 1) := by decide +kernel
abbrev b_Top_isRank : ByteArray := prog_1_method_17_code
def y_Top_isRank : MethodName := ⟨"SyntaxTrees", "isRank", "(I)Z"⟩
def w_Top_isRank : List Cond := .code y_Top_isRank b_Top_isRank 1 (some .boolean) :: TBL
theorem hd_Top_isRank : y_Top_isRank.cls = "SyntaxTrees" ∧ y_Top_isRank.cls ≠ "java/lang/invoke/MethodHandle" ∧ y_Top_isRank.cls ≠ "java/lang/invoke/VarHandle" ∧ (parseMethodDescriptor y_Top_isRank.desc).map (fun d => d.parameters.length) = some 1 := by decide +kernel
theorem d_Top_isRank_0 : decode b_Top_isRank 0 = .ok (.iload_n 0, 1) := by decide +kernel
theorem d_Top_isRank_1 : decode b_Top_isRank 1 = .ok (.ifCond .lt 13, 3) := by decide +kernel
theorem d_Top_isRank_4 : decode b_Top_isRank 4 = .ok (.iload_n 0, 1) := by decide +kernel
theorem d_Top_isRank_5 : decode b_Top_isRank 5 = .ok (.bipush 100, 2) := by decide +kernel
theorem d_Top_isRank_7 : decode b_Top_isRank 7 = .ok (.if_icmp .ge 7, 3) := by decide +kernel
theorem d_Top_isRank_10 : decode b_Top_isRank 10 = .ok (.iconst 1, 1) := by decide +kernel
theorem d_Top_isRank_11 : decode b_Top_isRank 11 = .ok (.goto 4, 3) := by decide +kernel
theorem d_Top_isRank_14 : decode b_Top_isRank 14 = .ok (.iconst 0, 1) := by decide +kernel
theorem d_Top_isRank_15 : decode b_Top_isRank 15 = .ok (.ireturn, 1) := by decide +kernel
set_option maxHeartbeats 4000000 in
set_option maxRecDepth 100000 in
theorem c_Top_bit (l : Launch) (dC : Nat → ClassId) (dI : Nat → Nat → Nat) (cI cJ cB : ClassId)  (p1 : Int32) (n : Nat) (o : Int64) (hf : f_Top_bit n p1 = some o) : Met l y_Top_bit w_Top_bit ({ frames := 0, cells := 0, slots := 0, locals := 0 }) (va_Pc [.int p1] (fun U => va_P (dC, dI) vwCl [] U.heap ∧ x_K (dC, dI) [(cI, .int), (cJ, .long), (cB, .byte)] U)) (vp_Sl (fun r => r = o)) 0 0 (fun _ => False) := by
  refine Met.ofW (cc := b_Top_bit) (maxL := 1) (ret := (some .long)) (by decide +kernel) rfl ?_
  intro p e s m args below meth c s₁ B hml hv
  obtain ⟨rfl, hP, hK⟩ := hv
  have hx := B.exec
  have hb := B.bytes
  have hr := B.returns
  have hts := atoms_spec (ws := w_Top_bit) B.pre
  have hown : s.vm.findClass "SyntaxTrees" = some m.cls := findClass_of_methodNamed B.named
  have hlocks := B.notSynchronized
  have hP : va_P (dC, dI) vwCl [] s.heap := hP
  have hl := lv_entry ([.int p1]) (n := 1) (Nat.le_of_ble_eq_true rfl)
  rw [lg_entry_eq]
  generalize (lg_sl ([.int p1]) ++ List.replicate (1 - (lg_sl ([.int p1])).length) Slot.unset).toArray = ls at hl ⊢
  have hl : lv_has ls 1 [(0, .int p1)] := hl
  refine x_Q (fun Q hQ => ?_)
  unfold f_Top_bit at hf
  refine lv_lconst (v := (1 : Int64)) hx hb d_Top_bit_0 (by decide +kernel) ?_
  refine lv_iload_n hx hb d_Top_bit_1 rfl (lv_at hl 0 rfl) ?_
  refine lv_lshl hx hb d_Top_bit_2 rfl ?_
  cases hf
  subst hQ
  exact W.lret hx hb hr (fun t ht _ => ⟨_, rfl, rfl, ht⟩) (fun _ h => absurd h List.not_mem_nil) d_Top_bit_3
set_option maxHeartbeats 4000000 in
set_option maxRecDepth 100000 in
theorem c_Top_hasBit (l : Launch) (dC : Nat → ClassId) (dI : Nat → Nat → Nat) (cI cJ cB : ClassId)  (p1 : Int64) (p2 : Int32) (n : Nat) (o : Int32) (hf : f_Top_hasBit n p1 p2 = some o) : Met l y_Top_hasBit w_Top_hasBit ({ frames := 1, cells := 0, slots := 0, locals := 20 }) (va_Pc [.long p1, .int p2] (fun U => va_P (dC, dI) vwCl [] U.heap ∧ x_K (dC, dI) [(cI, .int), (cJ, .long), (cB, .byte)] U)) (QcRead o) 0 0 (fun _ => False) := by
  refine Met.ofW (cc := b_Top_hasBit) (maxL := 3) (ret := (some .boolean)) (by decide +kernel) rfl ?_
  intro p e s m args below meth c s₁ B hml hv
  obtain ⟨rfl, hP, hK⟩ := hv
  have hx := B.exec
  have hb := B.bytes
  have hr := B.returns
  have hts := atoms_spec (ws := w_Top_hasBit) B.pre
  have hown : s.vm.findClass "SyntaxTrees" = some m.cls := findClass_of_methodNamed B.named
  have hlocks := B.notSynchronized
  have hP : va_P (dC, dI) vwCl [] s.heap := hP
  have hl := lv_entry ([.long p1, .int p2]) (n := 3) (Nat.le_of_ble_eq_true rfl)
  rw [lg_entry_eq]
  generalize (lg_sl ([.long p1, .int p2]) ++ List.replicate (3 - (lg_sl ([.long p1, .int p2])).length) Slot.unset).toArray = ls at hl ⊢
  have hl : lv_has ls 3 [(0, .long p1), (2, .int p2)] := hl
  refine x_Q (fun Q hQ => ?_)
  unfold f_Top_hasBit at hf
  refine lv_lload_n hx hb d_Top_hasBit_0 rfl (lv_at hl 0 rfl) ?_
  refine lv_iload_n hx hb d_Top_hasBit_1 rfl (lv_at hl 1 rfl) ?_
  obtain ⟨x1, hx1, hf⟩ := x_bd hf
  refine x_rdlS (As := [.int p2]) (rest := [.long p1]) (wc := []) ⟨hx, hb, hml, hown, hts⟩ (c_Top_bit l dC dI cI cJ cB p2 n x1 hx1) (cwS 1 hts (x_gS m_394 m_363 m_42 m_364) rfl rfl rfl hd_Top_bit ⟨Nat.le_of_ble_eq_true rfl, Nat.le_of_ble_eq_true rfl⟩) hK hP [] rfl rfl hl.1 rfl (Nat.le_of_ble_eq_true rfl) d_Top_hasBit_2 ⟨Nat.le_of_ble_eq_true rfl, Nat.le_of_ble_eq_true rfl⟩ ?_
  refine lv_land hx hb d_Top_hasBit_5 ?_
  refine lv_lconst (v := (0 : Int64)) hx hb d_Top_hasBit_6 (by decide +kernel) ?_
  refine W.lcmp hx hb d_Top_hasBit_7 ?_
  refine lv_if_eq (tgt := 15) hx hb d_Top_hasBit_8 (by decide +kernel) (fun c2 => ?_) (fun c2 => ?_)
  · have hf := x_pos c2 hf
    refine lv_iconst (v := (0 : Int32)) hx hb d_Top_hasBit_15 (by decide +kernel) ?_
    cases hf
    subst hQ
    exact W.zret hx hb hr rfl (fun t ht _ => ⟨rfl, ht⟩) (fun _ h => absurd h List.not_mem_nil) d_Top_hasBit_16
  · have hf := x_neg c2 hf
    refine lv_iconst (v := (1 : Int32)) hx hb d_Top_hasBit_11 (by decide +kernel) ?_
    refine lv_goto (tgt := 16) hx hb d_Top_hasBit_12 (by decide +kernel) ?_
    cases hf
    subst hQ
    exact W.zret hx hb hr rfl (fun t ht _ => ⟨rfl, ht⟩) (fun _ h => absurd h List.not_mem_nil) d_Top_hasBit_16
set_option maxHeartbeats 4000000 in
set_option maxRecDepth 100000 in
theorem c_Top_isRank (l : Launch) (dC : Nat → ClassId) (dI : Nat → Nat → Nat) (cI cJ cB : ClassId)  (p1 : Int32) (n : Nat) (o : Int32) (hf : f_Top_isRank n p1 = some o) : Met l y_Top_isRank w_Top_isRank ({ frames := 0, cells := 0, slots := 0, locals := 0 }) (va_Pc [.int p1] (fun U => va_P (dC, dI) vwCl [] U.heap ∧ x_K (dC, dI) [(cI, .int), (cJ, .long), (cB, .byte)] U)) (QcRead o) 0 0 (fun _ => False) := by
  refine Met.ofW (cc := b_Top_isRank) (maxL := 1) (ret := (some .boolean)) (by decide +kernel) rfl ?_
  intro p e s m args below meth c s₁ B hml hv
  obtain ⟨rfl, hP, hK⟩ := hv
  have hx := B.exec
  have hb := B.bytes
  have hr := B.returns
  have hts := atoms_spec (ws := w_Top_isRank) B.pre
  have hown : s.vm.findClass "SyntaxTrees" = some m.cls := findClass_of_methodNamed B.named
  have hlocks := B.notSynchronized
  have hP : va_P (dC, dI) vwCl [] s.heap := hP
  have hl := lv_entry ([.int p1]) (n := 1) (Nat.le_of_ble_eq_true rfl)
  rw [lg_entry_eq]
  generalize (lg_sl ([.int p1]) ++ List.replicate (1 - (lg_sl ([.int p1])).length) Slot.unset).toArray = ls at hl ⊢
  have hl : lv_has ls 1 [(0, .int p1)] := hl
  refine x_Q (fun Q hQ => ?_)
  unfold f_Top_isRank at hf
  refine lv_iload_n hx hb d_Top_isRank_0 rfl (lv_at hl 0 rfl) ?_
  refine lv_if_lt (tgt := 14) hx hb d_Top_isRank_1 (by decide +kernel) (fun c1 => ?_) (fun c1 => ?_)
  · have hf := x_pos c1 hf
    refine lv_iconst (v := (0 : Int32)) hx hb d_Top_isRank_14 (by decide +kernel) ?_
    cases hf
    subst hQ
    exact W.zret hx hb hr rfl (fun t ht _ => ⟨rfl, ht⟩) (fun _ h => absurd h List.not_mem_nil) d_Top_isRank_15
  · have hf := x_neg c1 hf
    refine lv_iload_n hx hb d_Top_isRank_4 rfl (lv_at hl 0 rfl) ?_
    refine lv_bipush (v := (100 : Int32)) hx hb d_Top_isRank_5 (by decide +kernel) ?_
    refine lv_icmp_ge (tgt := 14) hx hb d_Top_isRank_7 (by decide +kernel) (fun c2 => ?_) (fun c2 => ?_)
    · have hf := x_pos c2 hf
      refine lv_iconst (v := (0 : Int32)) hx hb d_Top_isRank_14 (by decide +kernel) ?_
      cases hf
      subst hQ
      exact W.zret hx hb hr rfl (fun t ht _ => ⟨rfl, ht⟩) (fun _ h => absurd h List.not_mem_nil) d_Top_isRank_15
    · have hf := x_neg c2 hf
      refine lv_iconst (v := (1 : Int32)) hx hb d_Top_isRank_10 (by decide +kernel) ?_
      refine lv_goto (tgt := 15) hx hb d_Top_isRank_11 (by decide +kernel) ?_
      cases hf
      subst hQ
      exact W.zret hx hb hr rfl (fun t ht _ => ⟨rfl, ht⟩) (fun _ h => absurd h List.not_mem_nil) d_Top_isRank_15
